/-! rule: the model reads -/
variable {D : DD} {m m' : MM} {e r : Nat} {u v w : US} {n mo p : Nat} {c : Nat → Nat} {ok : Bool}
abbrev FRm (u v : US) : Prop := Fm [(47, 19), (47, 21), (47, 27)] [60] [] u v
/-- the codes written so far -/
def Md (L : List Int32) (u : US) : Prop := gI u 47 27 = nI L.length ∧ L.length ≤ 80 ∧ codL (u.2.1 60) L.length = L
theorem Md.fd {L : List Int32} (h : Md L u) (f : Fdm u v) : Md L v := ⟨(f.i 47 27 rfl).trans h.1, h.2.1, by rw [f.a 60 rfl]; exact h.2.2⟩
/-- how many codes stand, never more than signs read -/
def Mn (q : Nat) (u : US) : Prop := ∃ a : Nat, a ≤ q ∧ gI u 47 27 = nI a
theorem codes_m {L : List Int32} (h : Md L u) (hl : L.length < 80) (x : Int32) (hr : Rm n mo c p u) : ∃ v, fX12_codes x u = some v ∧ Md (L ++ [x]) v ∧ Rm n mo c p v ∧ gI v 47 21 = gI u 47 21 ∧ FRm u v := by
  obtain ⟨h1, h2, h3⟩ := h
  have i1 := inb_nI hl (show 80 < 2 ^ 31 by decide)
  unfold fX12_codes
  rw [h1, gd_t i1, nxs, nxs]
  refine ⟨_, rfl, ⟨?_, ?_, ?_⟩, ?_, rfl, (Fm.rf.sA rfl).sI rfl⟩
  · show gI u 47 27 + 1 = _
    rw [h1, nI_1, List.length_append]; rfl
  · rw [List.length_append]; exact hl
  · show codL (upd (u.2.1 60) (nI L.length).toNatClampNeg x) (L ++ [x]).length = _
    rw [nI_clamp (by omega), List.length_append]; exact cod_upd h3
  · exact hr.fm (a := [(47, 27)]) (b := [60]) (d := []) ((Fm.rf.sA rfl).sI rfl) rfl rfl
theorem codes_n {q : Nat} (h : Mn q u) (hq : q < 80) (x : Int32) (hr : Rm n mo c p u) : ∃ v, fX12_codes x u = some v ∧ Mn (q + 1) v ∧ Rm n mo c p v ∧ gI v 47 21 = gI u 47 21 ∧ FRm u v := by
  obtain ⟨a, h1, h2⟩ := h
  have i1 := inb_nI (show a < 80 by omega) (show 80 < 2 ^ 31 by decide)
  unfold fX12_codes
  rw [h2, gd_t i1, nxs, nxs]
  refine ⟨_, rfl, ⟨a + 1, (by omega), ?_⟩, ?_, rfl, (Fm.rf.sA rfl).sI rfl⟩
  · show gI u 47 27 + 1 = _
    rw [h2, nI_1]
  · exact hr.fm (a := [(47, 27)]) (b := [60]) (d := []) ((Fm.rf.sA rfl).sI rfl) rfl rfl
/-- what the model has after a reading -/
def MR (n mo : Nat) (c : Nat → Nat) (L : List Int32) (r : RuR) (u : US) (o : Option (Int32 × US)) : Prop := ∃ v, o = some (bI r.2.1, v) ∧ Rm n mo c r.1 v ∧ FRm u v ∧ Mn r.1 v ∧ (r.2.1 = true → Md (L ++ r.2.2.2) v ∧ gI v 47 21 = gI u 47 21)
theorem Mn.fd {q : Nat} (h : Mn q u) (f : Fdm u v) : Mn q v := by
  obtain ⟨a, h1, h2⟩ := h
  exact ⟨a, h1, (f.i 47 27 rfl).trans h2⟩
theorem Mn.mono {q q' : Nat} (h : Mn q u) (hq : q ≤ q') : Mn q' u := by
  obtain ⟨a, h1, h2⟩ := h
  exact ⟨a, (by omega), h2⟩
theorem Md.mn {L : List Int32} {q : Nat} (h : Md L u) (hl : L.length ≤ q) : Mn q u := ⟨_, hl, h.1⟩
theorem num3_m (ht : Tok n mo c) (h : Rm n mo c p u) (hd : isd n mo c p = true) : ∃ v, fX12_number 3 u = some (nI (nuV c p (nuL n mo c p)), v) ∧ Rm n mo c (p + nuL n mo c p) v ∧ Fdm u v := by
  have step : ∀ (f k : Nat) (w : US), k < 3 → Rm n mo c (p + k) w → Fdm u w → isd n mo c (p + k) = true → ∃ w', fX12_number_13 3 (f + 1) (nI (nuV c p k)) (nI k) w = fX12_number_13 3 f (nI (nuV c p (k + 1))) (nI (k + 1)) w' ∧ Rm n mo c (p + (k + 1)) w' ∧ Fdm u w' := by
    intro f k w hk hr hf hi
    obtain ⟨a0, a1, a2⟩ := isd_hp hi
    have hn := ht.1
    have ip := inb_nI (show p + k < 80 by omega) (show 80 < 2 ^ 31 by decide)
    have e19 : gI w 47 19 = nI (p + k) := hr.2.1
    refine ⟨sI w 47 19 (nI (p + (k + 1))), ?_, ⟨hr.1, rfl, a0⟩, hf.sI rfl⟩
    have eA : gA w 57 (nI (p + k)) = nI (c (p + k)) := by
      show w.2.1 57 (nI (p + k)).toNatClampNeg = _
      rw [nI_clamp (by omega)]; exact hr.1.1 (p + k) (by omega)
    rw [fX12_number_13, if_neg (show ¬ (3 : Int32) ≤ nI k from nI_ge (b := 3) hk (by omega)), isDig_m ht hr, oBs, show (sgO n mo c 48 10 (p + k)).isSome = true from hi, if_neg (show ¬ bI true = 0 by decide), e19, gd_t ip, nxs, nI_1, nI_1, eA, show (10 : Int32) = nI 10 from rfl, pk_mul, nI_add, show (48 : Int32) = nI 48 from rfl, pk_sub (show 48 ≤ 10 * nuV c p k + c (p + k) by omega), show 10 * nuV c p k + c (p + k) - 48 = nuV c p (k + 1) from by show _ = nuV c p k * 10 + (c (p + k) - 48); omega]; rfl
  have stop : ∀ (f k : Nat) (w : US), k ≤ 3 → Rm n mo c (p + k) w → (k = 3 ∨ isd n mo c (p + k) = false) → fX12_number_13 3 (f + 1) (nI (nuV c p k)) (nI k) w = some (nI (nuV c p k), w) := by
    intro f k w hk hr hi
    rw [fX12_number_13]
    by_cases q : k = 3
    · rw [if_pos (show (3 : Int32) ≤ nI k by rw [q]; decide)]
    · rw [if_neg (show ¬ (3 : Int32) ≤ nI k from nI_ge (b := 3) (by omega) (by omega)), isDig_m ht hr, oBs, show (sgO n mo c 48 10 (p + k)).isSome = false from hi.resolve_left q, if_pos (show bI false = 0 from rfl)]
  unfold fX12_number
  rw [isDig_m ht h, oBs, show (sgO n mo c 48 10 p).isSome = true from hd, if_neg (show ¬ bI true = 0 by decide), show FU = 4092 + 1 + 1 + 1 + 1 from rfl]
  obtain ⟨w1, e1, r1, f1⟩ := step (4092 + 1 + 1 + 1) 0 u (by omega) h Fm.rf hd
  rw [show fX12_number_13 3 (4092 + 1 + 1 + 1 + 1) 0 0 u = fX12_number_13 3 (4092 + 1 + 1 + 1 + 1) (nI (nuV c p 0)) (nI 0) u from rfl, e1]
  unfold nuL
  cases q1 : isd n mo c (p + 1) with
  | false => rw [if_neg (by decide)]; exact ⟨w1, stop _ 1 w1 (by omega) r1 (Or.inr q1), r1, f1⟩
  | true =>
    rw [if_pos rfl]
    obtain ⟨w2, e2, r2, f2⟩ := step (4092 + 1 + 1) 1 w1 (by omega) r1 f1 q1
    rw [e2]
    cases q2 : isd n mo c (p + 2) with
    | false => rw [if_neg (by decide)]; exact ⟨w2, stop _ 2 w2 (by omega) r2 (Or.inr q2), r2, f2⟩
    | true =>
      rw [if_pos rfl]
      obtain ⟨w3, e3, r3, f3⟩ := step (4092 + 1) 2 w2 (by omega) r2 f2 q2
      rw [e3]
      exact ⟨w3, stop _ 3 w3 (by omega) r3 (Or.inl rfl), r3, f3⟩
