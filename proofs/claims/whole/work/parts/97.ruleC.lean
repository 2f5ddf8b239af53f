/-! rule: the class reads -/
variable {D : DD} {m m' : MM} {e r : Nat} {u v w : US} {n mo p : Nat} {c : Nat → Nat} {ok : Bool}
/-- which rule is being written -/
def IsV (v0 : Nat) : Prop := v0 = 13 ∨ v0 = 14
def FR (v0 : Nat) (u v : US) : Prop := (v0 = 13 → Fm [(2, 2), (2, 3), (13, 2)] [43] [] u v) ∧ (v0 = 14 → Fm [(2, 2), (2, 3), (14, 2)] [45] [] u v)
theorem FR.rf {v0 : Nat} : FR v0 u u := ⟨fun _ => Fm.rf, fun _ => Fm.rf⟩
theorem FR.trans {v0 : Nat} (h : FR v0 u v) (h2 : FR v0 v w) : FR v0 u w := ⟨fun q => (h.1 q).trans (h2.1 q), fun q => (h.2 q).trans (h2.2 q)⟩
theorem FR.fc {v0 : Nat} (h : Fc u v) : FR v0 u v := ⟨fun _ => h.mono rfl rfl rfl, fun _ => h.mono rfl rfl rfl⟩
/-- the codes written so far -/
def Cd (v0 : Nat) (L : List Int32) (u : US) : Prop := gI u v0 2 = nI L.length ∧ L.length ≤ 40 ∧ codL (u.2.1 (fpt v0 0)) L.length = L
def Cn (v0 : Nat) (u : US) : Prop := ∃ a : Nat, a ≤ 40 ∧ gI u v0 2 = nI a
theorem Cd.cn {v0 : Nat} {L : List Int32} (h : Cd v0 L u) : Cn v0 u := ⟨_, h.2.1, h.1⟩
theorem isV_r {v0 : Nat} (h : IsV v0) : isRul v0 = true := by rcases h with rfl | rfl <;> rfl
theorem Cd.fc {v0 : Nat} {L : List Int32} (hv : IsV v0) (h : Cd v0 L u) (f : Fc u v) : Cd v0 L v := by
  rcases hv with rfl | rfl
  · exact ⟨(f.i 13 2 rfl).trans h.1, h.2.1, by rw [show fpt 13 0 = 43 from rfl, f.a 43 rfl]; exact h.2.2⟩
  · exact ⟨(f.i 14 2 rfl).trans h.1, h.2.1, by rw [show fpt 14 0 = 45 from rfl, f.a 45 rfl]; exact h.2.2⟩
theorem Cn.fc {v0 : Nat} (hv : IsV v0) (h : Cn v0 u) (f : Fc u v) : Cn v0 v := by
  obtain ⟨a, h1, h2⟩ := h
  rcases hv with rfl | rfl
  · exact ⟨a, h1, (f.i 13 2 rfl).trans h2⟩
  · exact ⟨a, h1, (f.i 14 2 rfl).trans h2⟩
theorem cod_upd {f : Nat → Int32} {L : List Int32} {x : Int32} (h : codL f L.length = L) : codL (upd f L.length x) (L.length + 1) = L ++ [x] := by
  unfold codL at h ⊢
  rw [List.range_succ, List.map_append, List.map_singleton, pk_us]
  congr 1
  refine Eq.trans (List.map_congr_left fun j hj => ?_) h
  exact pk_un (by have := List.mem_range.mp hj; omega)
theorem emit_c {v0 : Nat} (hv : IsV v0) {L : List Int32} (h : Cd v0 L u) (hl : L.length < 40) (x : Int32) (hr : Rc n mo c p ok u) : ∃ v, fX6_emit v0 x u = some v ∧ Cd v0 (L ++ [x]) v ∧ Rc n mo c p ok v ∧ FR v0 u v := by
  unfold fX6_emit
  obtain ⟨h1, h2, h3⟩ := h
  have i1 := inb_nI (show L.length < 40 by omega) (show 40 < 2 ^ 31 by decide)
  rw [gd_t (isV_r hv), h1, if_neg (show ¬ (40 : Int32) ≤ nI L.length from nI_ge (b := 40) (by omega) (by omega))]
  rcases hv with rfl | rfl
  · rw [show fpt 13 0 = 43 from rfl, show ln 43 = 40 from rfl, gd_t i1, nxs, nxs]
    refine ⟨_, rfl, ⟨?_, ?_, ?_⟩, ?_, ⟨fun _ => (Fm.rf.sA rfl).sI rfl, fun q => absurd q (by decide)⟩⟩
    · show gI u 13 2 + 1 = _
      rw [h1, nI_1, List.length_append]; rfl
    · rw [List.length_append]; exact hl
    · show codL (upd (u.2.1 43) (nI L.length).toNatClampNeg x) (L ++ [x]).length = _
      rw [nI_clamp (by omega), List.length_append]; exact cod_upd h3
    · exact hr.fm (a := [(13, 2)]) (b := [43]) (d := []) ((Fm.rf.sA rfl).sI rfl) rfl rfl
  · rw [show fpt 14 0 = 45 from rfl, show ln 45 = 40 from rfl, gd_t i1, nxs, nxs]
    refine ⟨_, rfl, ⟨?_, ?_, ?_⟩, ?_, ⟨fun q => absurd q (by decide), fun _ => (Fm.rf.sA rfl).sI rfl⟩⟩
    · show gI u 14 2 + 1 = _
      rw [h1, nI_1, List.length_append]; rfl
    · rw [List.length_append]; exact hl
    · show codL (upd (u.2.1 45) (nI L.length).toNatClampNeg x) (L ++ [x]).length = _
      rw [nI_clamp (by omega), List.length_append]; exact cod_upd h3
    · exact hr.fm (a := [(14, 2)]) (b := [45]) (d := []) ((Fm.rf.sA rfl).sI rfl) rfl rfl
theorem emit_n {v0 : Nat} (hv : IsV v0) (h : Cn v0 u) (x : Int32) (hr : Rc n mo c p ok u) : ∃ v, fX6_emit v0 x u = some v ∧ Cn v0 v ∧ Rc n mo c p ok v ∧ FR v0 u v := by
  obtain ⟨a, h1, h2⟩ := h
  unfold fX6_emit
  rw [gd_t (isV_r hv), h2]
  by_cases q : a = 40
  · rw [if_pos (show (40 : Int32) ≤ nI a by rw [q]; decide)]
    exact ⟨u, rfl, ⟨a, h1, h2⟩, hr, FR.rf⟩
  · rw [if_neg (show ¬ (40 : Int32) ≤ nI a from nI_ge (b := 40) (by omega) (by omega))]
    have i1 := inb_nI (show a < 40 by omega) (show 40 < 2 ^ 31 by decide)
    rcases hv with rfl | rfl
    · rw [show fpt 13 0 = 43 from rfl, show ln 43 = 40 from rfl, gd_t i1, nxs, nxs]
      refine ⟨_, rfl, ⟨a + 1, (by omega), ?_⟩, ?_, ⟨fun _ => (Fm.rf.sA rfl).sI rfl, fun q => absurd q (by decide)⟩⟩
      · show gI u 13 2 + 1 = _
        rw [h2, nI_1]
      · exact hr.fm (a := [(13, 2)]) (b := [43]) (d := []) ((Fm.rf.sA rfl).sI rfl) rfl rfl
    · rw [show fpt 14 0 = 45 from rfl, show ln 45 = 40 from rfl, gd_t i1, nxs, nxs]
      refine ⟨_, rfl, ⟨a + 1, (by omega), ?_⟩, ?_, ⟨fun q => absurd q (by decide), fun _ => (Fm.rf.sA rfl).sI rfl⟩⟩
      · show gI u 14 2 + 1 = _
        rw [h2, nI_1]
      · exact hr.fm (a := [(14, 2)]) (b := [45]) (d := []) ((Fm.rf.sA rfl).sI rfl) rfl rfl
theorem atd_c (ht : Tok n mo c) (h : Rc n mo c p ok u) : fX5_atDigit u = some (bI (ok && isd n mo c p), u) := by
  unfold fX5_atDigit
  rw [peek_c ht h, oBs, peek_c ht h]
  cases ok with
  | false => rw [pk_f, if_pos (show (-1 : Int32) < 48 by decide)]; rfl
  | true =>
    by_cases q : p < min n mo
    · have hc := ht.2.2 p (by omega)
      rw [pk_y q, Bool.true_and]
      unfold isd sgO
      by_cases q1 : 48 ≤ c p
      · rw [if_neg (show ¬ nI (c p) < 48 from nI_nlt (b := 48) (by omega) (by omega))]
        by_cases q2 : c p < 58
        · rw [oBs, if_neg (show ¬ (57 : Int32) < nI (c p) from nI_nlt (a := 57) (by omega) (by omega)), if_pos ⟨q, q1, q2⟩]; rfl
        · rw [oBs, if_pos (show (57 : Int32) < nI (c p) from nI_lt (a := 57) (by omega) (by omega)), if_neg (fun w => q2 w.2.2)]; rfl
      · rw [if_pos (show nI (c p) < 48 from nI_lt (b := 48) (by omega) (by omega)), if_neg (fun w => q1 w.2.1)]; rfl
    · rw [pk_n q, if_pos (show (-1 : Int32) < 48 by decide)]
      unfold isd sgO
      rw [if_neg (fun w => q w.1)]; rfl
/-- behind a fault nothing more is read -/
def Ff (n mo : Nat) (c : Nat → Nat) (p v0 : Nat) (u : US) (o : Option US) : Prop := ∃ v, o = some v ∧ Rc n mo c p false v ∧ Cn v0 v ∧ FR v0 u v
theorem opd_f (ht : Tok n mo c) {g : Nat → Int32 → US → Option US} {v0 : Nat} (hv : IsV v0) {d : Int32} (h : Rc n mo c p false u) (hc : Cn v0 u) : Ff n mo c p v0 u (GX6_readOperand g v0 d u) := by
  unfold GX6_readOperand
  obtain ⟨v, e1, r1, f1⟩ := dem_c ht.1 h false
  rw [gd_t (isV_r hv), peek_c ht h, oBs, pk_f, if_neg (by decide), atd_c ht h, oBs, Bool.false_and, if_pos (show bI false = 0 from rfl), show fX6_isName (-1) u = some (bI false, u) from rfl, oBs, e1, oBs, Bool.false_and, if_pos (show bI false = 0 from rfl)]
  exact ⟨v, rfl, r1, hc.fc hv f1, FR.fc f1⟩
theorem neg_f (ht : Tok n mo c) {g : Nat → Int32 → US → Option US} {v0 : Nat} (hv : IsV v0) {d : Int32} (h : Rc n mo c p false u) (hc : Cn v0 u) : Ff n mo c p v0 u (GX6_readNegated g v0 d u) := by
  unfold GX6_readNegated
  obtain ⟨v, e1, r1, f1⟩ := pass_c ht h (s := 45) (by decide)
  rw [Bool.false_and, if_neg (by decide)] at r1
  rw [Bool.false_and] at e1
  obtain ⟨w, e2, r2, c2, f2⟩ := opd_f ht (g := g) hv (d := d) r1 (hc.fc hv f1)
  rw [gd_t (isV_r hv), show FU = 4095 + 1 from rfl, fX6_readNegated_5, if_neg (by decide), show (45 : Int32) = nI 45 from rfl, e1, oBs, if_pos (show bI false = 0 from rfl)]
  unfold fX6_readNegated_37
  rw [e2, oVs, if_pos rfl]
  exact ⟨w, rfl, r2, c2, (FR.fc f1).trans f2⟩
theorem prd_f (ht : Tok n mo c) {g : Nat → Int32 → US → Option US} {v0 : Nat} (hv : IsV v0) {d : Int32} (h : Rc n mo c p false u) (hc : Cn v0 u) : Ff n mo c p v0 u (GX6_readProduct g v0 d u) := by
  unfold GX6_readProduct
  obtain ⟨w, e2, r2, c2, f2⟩ := neg_f ht (g := g) hv (d := d) h hc
  rw [gd_t (isV_r hv), e2, oVs, show FU = 4095 + 1 from rfl, fX6_readProduct_8, if_neg (by decide), peek_c ht r2, oBs, pk_f, if_neg (by decide), if_neg (by decide)]
  exact ⟨w, rfl, r2, c2, f2⟩
theorem sum_f (ht : Tok n mo c) {g : Nat → Int32 → US → Option US} {v0 : Nat} (hv : IsV v0) {d : Int32} (h : Rc n mo c p false u) (hc : Cn v0 u) : Ff n mo c p v0 u (GX6_readSum g v0 d u) := by
  unfold GX6_readSum
  obtain ⟨w, e2, r2, c2, f2⟩ := prd_f ht (g := g) hv (d := d) h hc
  rw [gd_t (isV_r hv), e2, oVs, show FU = 4095 + 1 from rfl, fX6_readSum_8, if_neg (by decide), peek_c ht r2, oBs, pk_f, if_neg (by decide), if_neg (by decide)]
  exact ⟨w, rfl, r2, c2, f2⟩
/-- what the class has after a reading -/
def CR (n mo : Nat) (c : Nat → Nat) (v0 : Nat) (L : List Int32) (r : RuR) (u : US) (o : Option US) : Prop := ∃ v, o = some v ∧ Rc n mo c r.1 r.2.1 v ∧ FR v0 u v ∧ Cn v0 v ∧ (r.2.1 = true → Cd v0 (L ++ r.2.2.1) v)
theorem dg1_c (ht : Tok n mo c) (h : Rc n mo c p true u) (hd : isd n mo c p = true) : ∃ v, fX5_digit 10 u = some (nI (c p - 48), v) ∧ Rc n mo c (p + 1) true v ∧ Fc u v := by
  obtain ⟨v, e1, r1, f1⟩ := dig_c ht (s := (p, true)) h (k := 10) (by decide)
  unfold isd at hd
  cases ho : sgO n mo c 48 10 p with
  | none => rw [ho] at hd; cases hd
  | some x =>
    obtain ⟨_, _, _, a3⟩ := sg_hp ho
    rw [show sgO n mo c 48 10 (p, true).1 = some x from ho] at e1 r1
    refine ⟨v, ?_, r1, f1⟩
    rw [show (10 : Int32) = nI 10 from rfl, e1, ← a3]; rfl
theorem num_c (ht : Tok n mo c) {v0 : Nat} (hv : IsV v0) {L : List Int32} (h : Rc n mo c p true u) (hL : Cd v0 L u) (hl : L.length < 40) (hd : isd n mo c p = true) : CR n mo c v0 L (p + nuL n mo c p, true, [nI (1000 + nuV c p (nuL n mo c p))], [nI (nuV c p (nuL n mo c p))]) u (fX6_readNumber v0 u) := by
  have fin : ∀ (k : Nat) (w : US), Rc n mo c (p + k) true w → Fc u w → CR n mo c v0 L (p + k, true, [nI (1000 + nuV c p k)], [nI (nuV c p k)]) u (fX6_readNumber_34 v0 (nI (nuV c p k)) w) := by
    intro k w hr hf
    obtain ⟨v, e1, c1, r1, f1⟩ := emit_c hv (hL.fc hv hf) hl (nI (1000 + nuV c p k)) hr
    unfold fX6_readNumber_34
    rw [show (1000 : Int32) + nI (nuV c p k) = nI (1000 + nuV c p k) from nI_add 1000 _, e1, oVs]
    exact ⟨v, rfl, r1, (FR.fc hf).trans f1, c1.cn, fun _ => c1⟩
  have step : ∀ (f k : Nat) (w : US), k < 3 → Rc n mo c (p + k) true w → Fc u w → isd n mo c (p + k) = true → ∃ w', fX6_readNumber_4 v0 (f + 1) (nI (nuV c p k)) (nI k) w = fX6_readNumber_4 v0 f (nI (nuV c p (k + 1))) (nI (k + 1)) w' ∧ Rc n mo c (p + (k + 1)) true w' ∧ Fc u w' := by
    intro f k w hk hr hf hi
    obtain ⟨w', e1, r1, f1⟩ := dg1_c ht hr hi
    refine ⟨w', ?_, r1, hf.trans f1⟩
    rw [fX6_readNumber_4, if_neg (show ¬ (3 : Int32) ≤ nI k from nI_ge (b := 3) hk (by omega)), atd_c ht hr, oBs, Bool.true_and, hi, if_neg (show ¬ bI true = 0 by decide), e1, oBs, show (10 : Int32) = nI 10 from rfl, pk_mul, nI_add, nI_1]; rfl
  have stop : ∀ (f k : Nat) (w : US), k ≤ 3 → Rc n mo c (p + k) true w → Fc u w → (k = 3 ∨ isd n mo c (p + k) = false) → CR n mo c v0 L (p + k, true, [nI (1000 + nuV c p k)], [nI (nuV c p k)]) u (fX6_readNumber_4 v0 (f + 1) (nI (nuV c p k)) (nI k) w) := by
    intro f k w hk hr hf hi
    rw [fX6_readNumber_4]
    by_cases q : k = 3
    · rw [if_pos (show (3 : Int32) ≤ nI k by rw [q]; decide)]; exact fin k w hr hf
    · have hi' : isd n mo c (p + k) = false := hi.resolve_left q
      rw [if_neg (show ¬ (3 : Int32) ≤ nI k from nI_ge (b := 3) (by omega) (by omega)), atd_c ht hr, oBs, hi', Bool.and_false, if_pos (show bI false = 0 from rfl)]; exact fin k w hr hf
  unfold fX6_readNumber
  rw [gd_t (isV_r hv), show FU = 4092 + 1 + 1 + 1 + 1 from rfl]
  obtain ⟨w1, e1, r1, f1⟩ := step (4092 + 1 + 1 + 1) 0 u (by omega) h Fm.rf hd
  rw [show fX6_readNumber_4 v0 (4092 + 1 + 1 + 1 + 1) 0 0 u = fX6_readNumber_4 v0 (4092 + 1 + 1 + 1 + 1) (nI (nuV c p 0)) (nI 0) u from rfl, e1]
  unfold nuL
  cases q1 : isd n mo c (p + 1) with
  | false => rw [if_neg (by decide)]; exact stop _ 1 w1 (by omega) r1 f1 (Or.inr q1)
  | true =>
    rw [if_pos rfl]
    obtain ⟨w2, e2, r2, f2⟩ := step (4092 + 1 + 1) 1 w1 (by omega) r1 f1 q1
    rw [e2]
    cases q2 : isd n mo c (p + 2) with
    | false => rw [if_neg (by decide)]; exact stop _ 2 w2 (by omega) r2 f2 (Or.inr q2)
    | true =>
      rw [if_pos rfl]
      obtain ⟨w3, e3, r3, f3⟩ := step (4092 + 1) 2 w2 (by omega) r2 f2 q2
      rw [e3]
      exact stop _ 3 w3 (by omega) r3 f3 (Or.inl rfl)
theorem isNm_c (x : Int32) (u : US) : fX6_isName x u = some (bI (isNm x), u) := by
  unfold fX6_isName isNm
  by_cases h1 : x = 107
  · subst h1; rfl
  by_cases h2 : x = 115
  · subst h2; rfl
  by_cases h3 : x = 108
  · subst h3; rfl
  by_cases h4 : x = 104
  · subst h4; rfl
  by_cases h5 : x = 110
  · subst h5; rfl
  by_cases h6 : x = 116
  · subst h6; rfl
  rw [if_neg h1, if_neg h2, if_neg h3, if_neg h4, if_neg h5, if_neg h6, beq_eq_false_iff_ne.mpr h1, beq_eq_false_iff_ne.mpr h2, beq_eq_false_iff_ne.mpr h3, beq_eq_false_iff_ne.mpr h4, beq_eq_false_iff_ne.mpr h5, beq_eq_false_iff_ne.mpr h6]; rfl
theorem isNm_ix : ∀ x : Nat, x < 256 → isNm (nI x) = (ixO 2 x).isSome := by decide +kernel
theorem isNm_pk (ht : Tok n mo c) : isNm (pkV n mo c p true) = (amO n mo c 2 p).isSome := by
  unfold amO
  by_cases q : p < min n mo
  · rw [pk_y q, if_pos q, isNm_ix _ (ht.2.2 p (by omega))]
  · rw [pk_n q, if_neg q]; rfl
theorem ht_eq {s : Nat} (h : htB n mo c p s = true) : c p = s := by
  unfold htB at h
  rw [Bool.and_eq_true] at h
  exact of_decide_eq_true h.2
theorem pk_ne (ht : Tok n mo c) {s : Nat} (hs : s < 256) (h : htB n mo c p s = false) : ¬ pkV n mo c p true = nI s := by
  by_cases q : p < min n mo
  · rw [pk_y q]
    intro x
    have hc := ht.2.2 p (by omega)
    have := congrArg Int32.toInt x
    rw [nI_toInt (by omega), nI_toInt (by omega)] at this
    unfold htB at h
    rw [decide_eq_true q, decide_eq_true (show c p = s by omega)] at h
    cases h
  · rw [pk_n q]
    intro x
    have := congrArg Int32.toInt x
    rw [nI_toInt (by omega)] at this
    have h4 : (-1 : Int32).toInt = -1 := rfl
    omega
theorem opd_c (ht : Tok n mo c) (hM : min n mo ≤ 40) {g : Nat → Int32 → US → Option US} {pc : Nat → RuR} {v0 d : Nat} (hv : IsV v0) (hd : d ≤ 4) (hg : d < 4 → ∀ (q : Nat) (L : List Int32) (w : US), q ≤ min n mo → Rc n mo c q true w → Cd v0 L w → L.length ≤ q → CR n mo c v0 L (pc q) w (g v0 (nI (d + 1)) w)) {L : List Int32} (h : Rc n mo c p true u) (hL : Cd v0 L u) (hl : L.length ≤ p) : CR n mo c v0 L (opR n mo c pc d p) u (GX6_readOperand g v0 (nI d) u) := by
  unfold GX6_readOperand opR
  rw [gd_t (isV_r hv), peek_c ht h, oBs]
  cases q1 : htB n mo c p 40 with
  | true =>
    have hp := ht_lt q1
    rw [if_pos rfl, pk_y hp, ht_eq q1, if_pos (show nI 40 = 40 from rfl)]
    by_cases q2 : 4 ≤ d
    · obtain ⟨v, e1, r1, f1⟩ := dem_c ht.1 h false
      rw [if_pos q2, if_pos (show (4 : Int32) ≤ nI d from nI_le (a := 4) q2 (by omega))]
      unfold fX6_readOperand_22
      rw [show (0 : Int32) = bI false from rfl, e1, oBs, Bool.and_false, if_pos rfl]
      exact ⟨v, rfl, r1, FR.fc f1, (hL.fc hv f1).cn, fun w => by cases w⟩
    · obtain ⟨v, e1, r1, f1⟩ := dem_c ht.1 h true
      obtain ⟨v2, e2, r2, f2⟩ := pass_c ht r1 (s := 40) (by decide)
      rw [q1] at r2
      obtain ⟨v3, e3, r3, f3, n3, c3⟩ := hg (by omega) (p + 1) L v2 hp r2 ((hL.fc hv f1).fc hv f2) (by omega)
      obtain ⟨v4, e4, r4, f4⟩ := pass_c ht r3 (s := 41) (by decide)
      obtain ⟨v5, e5, r5, f5⟩ := dem_c ht.1 r4 ((pc (p + 1)).2.1 && htB n mo c (pc (p + 1)).1 41)
      rw [if_neg q2, if_neg (show ¬ (4 : Int32) ≤ nI d from nI_ge (b := 4) (by omega) (by omega))]
      unfold fX6_readOperand_22
      rw [show (1 : Int32) = bI true from rfl, e1, oBs, Bool.and_true, if_neg (show ¬ bI true = 0 by decide), show (40 : Int32) = nI 40 from rfl, e2, oBs, show bI true = 1 from rfl, nI_1, e3, oVs, show (41 : Int32) = nI 41 from rfl, e4, oBs, e5, oBs]
      have ff : FR v0 u v5 := ((((FR.fc f1).trans (FR.fc f2)).trans f3).trans (FR.fc f4)).trans (FR.fc f5)
      cases q3 : ((pc (p + 1)).2.1 && htB n mo c (pc (p + 1)).1 41) with
      | true =>
        rw [q3, if_pos rfl] at r5
        rw [if_pos rfl]
        have q3' := q3
        rw [Bool.and_eq_true] at q3'
        rw [q3'.1] at r5
        exact ⟨v5, rfl, r5, ff, (n3.fc hv f4).fc hv f5, fun _ => ((c3 q3'.1).fc hv f4).fc hv f5⟩
      | false =>
        rw [q3, if_neg (by decide), Bool.and_false] at r5
        rw [if_neg (by decide)]
        exact ⟨v5, rfl, r5, ff, (n3.fc hv f4).fc hv f5, fun w => by cases w⟩
  | false =>
    rw [if_neg (by decide), if_neg (show ¬ pkV n mo c p true = 40 from pk_ne ht (s := 40) (by decide) q1), atd_c ht h, oBs, Bool.true_and]
    cases q2 : isd n mo c p with
    | true =>
      have hp := (isd_hp q2).1
      rw [if_pos rfl, if_neg (show ¬ bI true = 0 by decide)]
      obtain ⟨v, e1, r1, f1, n1, c1⟩ := num_c ht hv h hL (by omega) q2
      rw [e1, oVs]
      exact ⟨v, rfl, r1, f1, n1, c1⟩
    | false =>
      obtain ⟨v, e1, r1, f1⟩ := dem_c ht.1 h (amO n mo c 2 p).isSome
      rw [if_neg (by decide), if_pos (show bI false = 0 from rfl), isNm_c, oBs, isNm_pk ht, e1, oBs, Bool.true_and]
      rw [Bool.true_and] at r1
      cases ho : amO n mo c 2 p with
      | none =>
        rw [ho] at r1
        rw [if_pos (show bI (none : Option Nat).isSome = 0 from rfl)]
        exact ⟨v, rfl, r1, FR.fc f1, (hL.fc hv f1).cn, fun w => by cases w⟩
      | some j =>
        have hp := am_p ho
        have hc := ht.2.2 p (by omega)
        rw [ho] at r1
        rw [if_neg (show ¬ bI (some j).isSome = 0 from (show ¬ bI true = 0 by decide)), pk_y hp]
        obtain ⟨v2, e2, r2, f2⟩ := pass_c ht r1 (s := c p) hc
        have hh : htB n mo c p (c p) = true := by unfold htB; rw [decide_eq_true hp, decide_eq_true rfl]; rfl
        rw [hh] at r2
        obtain ⟨v3, e3, c3, r3, f3⟩ := emit_c hv ((hL.fc hv f1).fc hv f2) (by omega) (nI (c p)) r2
        rw [e2, oBs, e3, oVs]
        exact ⟨v3, rfl, r3, ((FR.fc f1).trans (FR.fc f2)).trans f3, c3.cn, fun _ => c3⟩
theorem mn_at {f : Nat} : ∀ q i, i < mnN n mo c f q → htB n mo c (q + i) 45 = true := by
  induction f with
  | zero => intro q i h; exact absurd h (Nat.not_lt_zero i)
  | succ f ih =>
    intro q i h
    rw [mnN] at h
    by_cases w : htB n mo c q 45 = true
    · rw [if_pos w] at h
      cases i with
      | zero => exact w
      | succ i =>
        have := ih (q + 1) i (by omega)
        rw [show q + (i + 1) = q + 1 + i by omega]; exact this
    · rw [if_neg w] at h; exact absurd h (Nat.not_lt_zero i)
theorem mn_end {f : Nat} : ∀ q, mnN n mo c f q < f → htB n mo c (q + mnN n mo c f q) 45 = false := by
  induction f with
  | zero => intro q h; exact absurd h (Nat.not_lt_zero _)
  | succ f ih =>
    intro q h
    rw [mnN] at h ⊢
    cases w : htB n mo c q 45 with
    | true =>
      rw [w, if_pos rfl] at h
      rw [if_pos rfl]
      have := ih (q + 1) (by omega)
      rw [show q + (mnN n mo c f (q + 1) + 1) = q + 1 + mnN n mo c f (q + 1) by omega]; exact this
    | false => rw [if_neg (by decide)]; exact w
theorem mn_f {f : Nat} : ∀ q, mnN n mo c f q ≤ f := by
  induction f with
  | zero => intro q; exact Nat.le_refl _
  | succ f ih =>
    intro q
    rw [mnN]
    by_cases w : htB n mo c q 45 = true
    · rw [if_pos w]; exact Nat.succ_le_succ (ih _)
    · rw [if_neg w]; exact Nat.zero_le _
theorem neg_c (ht : Tok n mo c) (hM : min n mo ≤ 40) {g : Nat → Int32 → US → Option US} {pc : Nat → RuR} {v0 d : Nat} (hv : IsV v0) (hd : d ≤ 4) (hpc : ∀ q, q ≤ min n mo → Gd (min n mo) q (pc q)) (hg : d < 4 → ∀ (q : Nat) (L : List Int32) (w : US), q ≤ min n mo → Rc n mo c q true w → Cd v0 L w → L.length ≤ q → CR n mo c v0 L (pc q) w (g v0 (nI (d + 1)) w)) {L : List Int32} (h : Rc n mo c p true u) (hL : Cd v0 L u) (hl : L.length ≤ p) (hp : p ≤ min n mo) : CR n mo c v0 L (ngR n mo c pc d p) u (GX6_readNegated g v0 (nI d) u) := by
  have hk40 := mn_f (n := n) (mo := mo) (c := c) (f := 40) p
  have hkM := mn_le (c := c) (f := 40) p hp
  have hat := mn_at (n := n) (mo := mo) (c := c) (f := 40) p
  have hend := mn_end (n := n) (mo := mo) (c := c) (f := 40) p
  unfold GX6_readNegated ngR
  rw [gd_t (isV_r hv)]
  generalize mnN n mo c 40 p = k at *
  have fin : ∀ w, Rc n mo c (p + k) true w → Fc u w → CR n mo c v0 L ((opR n mo c pc d (p + k)).1, (opR n mo c pc d (p + k)).2.1, (opR n mo c pc d (p + k)).2.2.1 ++ (if k % 2 = 1 then [nI 126] else []), (opR n mo c pc d (p + k)).2.2.2 ++ List.replicate k (nI 3000)) u (fX6_readNegated_37 g v0 (nI d) (bI (decide (k % 2 = 1))) w) := by
    intro w hr hf
    obtain ⟨v, e1, r1, f1, n1, c1⟩ := opd_c ht hM hv hd hg hr (hL.fc hv hf) (show L.length ≤ p + k by omega)
    obtain ⟨g1, g2, g3⟩ := op_gd (c := c) (d := d) hpc hkM
    unfold fX6_readNegated_37
    rw [e1, oVs]
    by_cases q : k % 2 = 1
    · rw [decide_eq_true q, if_neg (show ¬ bI true = 0 by decide), if_pos q]
      cases ho : (opR n mo c pc d (p + k)).2.1 with
      | true =>
        rw [ho] at r1
        obtain ⟨k1, k2, k3, k4, k5, k6⟩ := g3 ho
        obtain ⟨v2, e2, c2, r2, f2⟩ := emit_c hv (c1 ho) (by rw [List.length_append]; omega) (nI 126) r1
        rw [show (126 : Int32) = nI 126 from rfl, e2, oVs]
        exact ⟨v2, rfl, r2, ((FR.fc hf).trans f1).trans f2, c2.cn, fun _ => by rw [← List.append_assoc]; exact c2⟩
      | false =>
        rw [ho] at r1
        obtain ⟨v2, e2, c2, r2, f2⟩ := emit_n hv n1 (nI 126) r1
        rw [show (126 : Int32) = nI 126 from rfl, e2, oVs]
        exact ⟨v2, rfl, r2, ((FR.fc hf).trans f1).trans f2, c2, fun w => by cases w⟩
    · rw [decide_eq_false q, if_pos (show bI false = 0 from rfl), if_neg q, List.append_nil]
      exact ⟨v, rfl, r1, (FR.fc hf).trans f1, n1, c1⟩
  refine lpE (fun f (z : Int32 × Int32) w => fX6_readNegated_5 g v0 (nI d) f z.1 z.2 w) k (fun i => (bI (decide (i % 2 = 1)), nI i)) (fun i w => Rc n mo c (p + i) true w ∧ Fc u w) (fun o => CR n mo c v0 L _ u o) ?_ ?_ (by omega) (0, 0) rfl ⟨h, Fm.rf⟩
  · rintro f i w hi ⟨hr, hf⟩
    left
    obtain ⟨v, e1, r1, f1⟩ := pass_c ht hr (s := 45) (by decide)
    rw [hat i hi] at r1 e1
    refine ⟨v, ⟨r1, hf.trans f1⟩, ?_⟩
    show fX6_readNegated_5 g v0 (nI d) (f + 1) (bI (decide (i % 2 = 1))) (nI i) w = _
    rw [fX6_readNegated_5, if_neg (show ¬ (40 : Int32) ≤ nI i from nI_ge (b := 40) (by omega) (by omega)), show (45 : Int32) = nI 45 from rfl, e1, oBs, if_neg (show ¬ bI (true && true) = 0 by decide), nI_1]
    by_cases q : i % 2 = 1
    · rw [decide_eq_true q, if_neg (show ¬ bI true = 0 by decide), decide_eq_false (show ¬ (i + 1) % 2 = 1 by omega)]; rfl
    · rw [decide_eq_false q, if_pos (show bI false = 0 from rfl), decide_eq_true (show (i + 1) % 2 = 1 by omega)]; rfl
  · rintro f w ⟨hr, hf⟩
    show CR n mo c v0 L _ u (fX6_readNegated_5 g v0 (nI d) (f + 1) (bI (decide (k % 2 = 1))) (nI k) w)
    rw [fX6_readNegated_5]
    by_cases q : k = 40
    · rw [if_pos (show (40 : Int32) ≤ nI k by rw [q]; decide)]; exact fin w hr hf
    · obtain ⟨v, e1, r1, f1⟩ := pass_c ht hr (s := 45) (by decide)
      rw [hend (by omega)] at r1 e1
      rw [if_neg (show ¬ (40 : Int32) ≤ nI k from nI_ge (b := 40) (by omega) (by omega)), show (45 : Int32) = nI 45 from rfl, e1, oBs, if_pos (show bI (true && false) = 0 by decide)]
      exact fin v r1 (hf.trans f1)
theorem jn_gd {ix bs j q : Nat} {a b : RuR} (hix : (ix = 3 ∧ bs = 2000) ∨ (ix = 4 ∧ bs = 2003) ∨ (ix = 5 ∧ bs = 2005)) (ho : amO n mo c ix a.1 = some j) (h : Gd (min n mo) q a) (w : a.2.1 = true) (hb : Gd (min n mo) (a.1 + 1) b) : Gd (min n mo) q (jnR a b (nI (c a.1)) (nI (bs + j))) := by
  have := ch_gd (n := n) (mo := mo) (c := c) (sub := fun x => if x = a.1 + 1 then b else (x, false, [], [])) hix (fun x hx => by
    by_cases e : x = a.1 + 1
    · subst e; rw [if_pos rfl]; exact hb
    · rw [if_neg e]; exact ⟨Nat.le_refl _, hx, fun h => by cases h⟩) (q := q) 1 a h
  rw [chR, if_pos w, ho] at this
  simp only [chR, if_pos] at this
  exact this
theorem chn_c (ht : Tok n mo c) (hM : min n mo ≤ 40) {v0 ix bs : Nat} (hv : IsV v0) (hix : (ix = 3 ∧ bs = 2000) ∨ (ix = 4 ∧ bs = 2003) ∨ (ix = 5 ∧ bs = 2005)) {sub : Nat → RuR} (Sub : US → Option US) (hgd : ∀ q, q ≤ min n mo → Gd (min n mo) q (sub q)) (hsub : ∀ (q : Nat) (L : List Int32) (w : US), q ≤ min n mo → Rc n mo c q true w → Cd v0 L w → L.length ≤ q → CR n mo c v0 L (sub q) w (Sub w)) (Lp : Nat → Int32 → US → Option US)
    (hA : ∀ f w, Lp (f + 1) (nI 40) w = some w)
    (hB : ∀ f i q ok w, i < 40 → Rc n mo c q ok w → (ok = false ∨ amO n mo c ix q = none) → Lp (f + 1) (nI i) w = some w)
    (hC : ∀ f i q j w, i < 40 → Rc n mo c q true w → amO n mo c ix q = some j → Lp (f + 1) (nI i) w = oB (fX5_passes (nI (c q)) w) fun _ u1 => oV (Sub u1) fun u2 => oV (fX6_emit v0 (nI (c q)) u2) fun u3 => Lp f (nI i + 1) u3)
    {L : List Int32} (hl : L.length ≤ p) : ∀ (k i f : Nat) (a : RuR) (w : US), i + k = 40 → k < f → Gd (min n mo) p a → Rc n mo c a.1 a.2.1 w → FR v0 u w → Cn v0 w → (a.2.1 = true → Cd v0 (L ++ a.2.2.1) w) → CR n mo c v0 L (chR n mo c sub ix bs k a) u (Lp f (nI i) w)
  | 0, i, f, a, w, hi, hf, hg, hr, hfr, hn, hc => by
    obtain ⟨f, rfl⟩ : ∃ f', f = f' + 1 := ⟨f - 1, (by omega)⟩
    have : i = 40 := by omega
    subst this
    rw [hA]
    exact ⟨w, rfl, hr, hfr, hn, hc⟩
  | k + 1, i, f, a, w, hi, hf, hg, hr, hfr, hn, hc => by
    obtain ⟨f, rfl⟩ : ∃ f', f = f' + 1 := ⟨f - 1, (by omega)⟩
    rw [chR]
    cases ha : a.2.1 with
    | false =>
      rw [if_neg (by decide), hB f i a.1 a.2.1 w (by omega) hr (Or.inl ha)]
      exact ⟨w, rfl, hr, hfr, hn, hc⟩
    | true =>
      rw [if_pos rfl]
      cases ho : amO n mo c ix a.1 with
      | none =>
        rw [hB f i a.1 a.2.1 w (by omega) hr (Or.inr ho)]
        exact ⟨w, rfl, hr, hfr, hn, hc⟩
      | some j =>
        have hp := am_p ho
        have hcp := ht.2.2 a.1 (by omega)
        rw [ha] at hr
        obtain ⟨g1, g2, g3⟩ := hg
        obtain ⟨k1, k2, k3, k4, k5, k6⟩ := g3 ha
        obtain ⟨v1, e1, r1, f1⟩ := pass_c ht hr (s := c a.1) hcp
        have hh : htB n mo c a.1 (c a.1) = true := by unfold htB; rw [decide_eq_true hp, decide_eq_true rfl]; rfl
        rw [hh] at r1
        obtain ⟨v2, e2, r2, f2, n2, c2⟩ := hsub (a.1 + 1) (L ++ a.2.2.1) v1 hp r1 ((hc ha).fc hv f1) (by rw [List.length_append]; omega)
        have gb := hgd (a.1 + 1) hp
        have gj := jn_gd (b := sub (a.1 + 1)) hix ho ⟨g1, g2, g3⟩ ha gb
        rw [hC f i a.1 j w (by omega) hr ho, e1, oBs, e2, oVs]
        cases hb : (sub (a.1 + 1)).2.1 with
        | true =>
          rw [hb] at r2
          obtain ⟨l1, l2, l3, l4, l5, l6⟩ := gb.2.2 hb
          have := gb.2.1
          obtain ⟨v3, e3, c3, r3, f3⟩ := emit_c hv (c2 hb) (by rw [List.length_append, List.length_append]; omega) (nI (c a.1)) r2
          rw [e3, oVs, nI_1]
          refine chn_c ht hM hv hix Sub hgd hsub Lp hA hB hC hl k (i + 1) f _ v3 (by omega) (by omega) gj ?_ (((hfr.trans (FR.fc f1)).trans f2).trans f3) c3.cn (fun _ => ?_)
          · show Rc n mo c (sub (a.1 + 1)).1 (sub (a.1 + 1)).2.1 v3
            rw [hb]; exact r3
          · show Cd v0 (L ++ (a.2.2.1 ++ (sub (a.1 + 1)).2.2.1 ++ [nI (c a.1)])) v3
            rw [← List.append_assoc, ← List.append_assoc]; exact c3
        | false =>
          rw [hb] at r2
          obtain ⟨v3, e3, c3, r3, f3⟩ := emit_n hv n2 (nI (c a.1)) r2
          rw [e3, oVs, nI_1]
          refine chn_c ht hM hv hix Sub hgd hsub Lp hA hB hC hl k (i + 1) f _ v3 (by omega) (by omega) gj ?_ (((hfr.trans (FR.fc f1)).trans f2).trans f3) c3 (fun q => ?_)
          · show Rc n mo c (sub (a.1 + 1)).1 (sub (a.1 + 1)).2.1 v3
            rw [hb]; exact r3
          · exact absurd (show (sub (a.1 + 1)).2.1 = true from q) (by rw [hb]; decide)
theorem ix5 : ∀ x : Nat, x < 256 → (ixO 5 x = none → x ≠ 42 ∧ x ≠ 47) ∧ ((ixO 5 x).isSome = true → x = 42 ∨ x = 47) := by decide +kernel
theorem ix4 : ∀ x : Nat, x < 256 → (ixO 4 x = none → x ≠ 43 ∧ x ≠ 45) ∧ ((ixO 4 x).isSome = true → x = 43 ∨ x = 45) := by decide +kernel
theorem ix3 : ∀ x : Nat, x < 256 → (ixO 3 x = none → x ≠ 60 ∧ x ≠ 62 ∧ x ≠ 61) ∧ ((ixO 3 x).isSome = true → x = 60 ∨ x = 62 ∨ x = 61) := by decide +kernel
theorem pk_ne2 (ht : Tok n mo c) {s : Nat} (hs : s < 256) (h : p < min n mo → c p ≠ s) : ¬ pkV n mo c p true = nI s := pk_ne ht hs (by
  unfold htB
  by_cases q : p < min n mo
  · rw [decide_eq_false (h q), Bool.and_false]
  · rw [decide_eq_false q, Bool.false_and])
theorem am_no {ix : Nat} (h : amO n mo c ix p = none) (q : p < min n mo) : ixO ix (c p) = none := by
  unfold amO at h; rw [if_pos q] at h; exact h
theorem am_so {ix j : Nat} (h : amO n mo c ix p = some j) : (ixO ix (c p)).isSome = true := by
  have q := am_p h
  unfold amO at h; rw [if_pos q] at h; rw [h]; rfl
theorem prd_c (ht : Tok n mo c) (hM : min n mo ≤ 40) {g : Nat → Int32 → US → Option US} {pc : Nat → RuR} {v0 d : Nat} (hv : IsV v0) (hd : d ≤ 4) (hpc : ∀ q, q ≤ min n mo → Gd (min n mo) q (pc q)) (hg : d < 4 → ∀ (q : Nat) (L : List Int32) (w : US), q ≤ min n mo → Rc n mo c q true w → Cd v0 L w → L.length ≤ q → CR n mo c v0 L (pc q) w (g v0 (nI (d + 1)) w)) {L : List Int32} (h : Rc n mo c p true u) (hL : Cd v0 L u) (hl : L.length ≤ p) (hp : p ≤ min n mo) : CR n mo c v0 L (pdR n mo c pc d p) u (GX6_readProduct g v0 (nI d) u) := by
  obtain ⟨w, e1, r1, f1, n1, c1⟩ := neg_c ht hM hv hd hpc hg h hL hl hp
  unfold GX6_readProduct
  rw [gd_t (isV_r hv), e1, oVs]
  refine chn_c (ix := 5) (bs := 2005) ht hM hv (Or.inr (Or.inr ⟨rfl, rfl⟩)) (fun x => GX6_readNegated g v0 (nI d) x) (fun q hq => ng_gd hpc hq) (fun q L w hq hr hc hl => neg_c ht hM hv hd hpc hg hr hc hl hq) (fun f x w => fX6_readProduct_8 g v0 (nI d) f x w) (fun f w => ?_) (fun f i q ok w hi hr ho => ?_) (fun f i q j w hi hr ho => ?_) hl 40 0 FU _ w (by omega) (show 40 < FU by decide) (ng_gd hpc hp) r1 f1 n1 c1
  · rw [fX6_readProduct_8, if_pos (show (40 : Int32) ≤ nI 40 by decide)]
  · rw [fX6_readProduct_8, if_neg (show ¬ (40 : Int32) ≤ nI i from nI_ge (b := 40) (by omega) (by omega)), peek_c ht hr, oBs]
    cases ok with
    | false => rw [pk_f, if_neg (by decide), if_neg (by decide)]
    | true =>
      have ho' := ho.resolve_left (by decide)
      rw [if_neg (show ¬ pkV n mo c q true = 42 from pk_ne2 ht (s := 42) (by decide) (fun w => ((ix5 _ (ht.2.2 q (by omega))).1 (am_no ho' w)).1)), if_neg (show ¬ pkV n mo c q true = 47 from pk_ne2 ht (s := 47) (by decide) (fun w => ((ix5 _ (ht.2.2 q (by omega))).1 (am_no ho' w)).2))]
  · have hq := am_p ho
    rw [fX6_readProduct_8, if_neg (show ¬ (40 : Int32) ≤ nI i from nI_ge (b := 40) (by omega) (by omega)), peek_c ht hr, oBs, pk_y hq]
    rcases (ix5 _ (ht.2.2 q (by omega))).2 (am_so ho) with w | w
    · rw [w, if_pos (show nI 42 = 42 from rfl)]; rfl
    · rw [w, if_neg (show ¬ nI 47 = 42 by decide), if_pos (show nI 47 = 47 from rfl)]; rfl
theorem sum_c (ht : Tok n mo c) (hM : min n mo ≤ 40) {g : Nat → Int32 → US → Option US} {pc : Nat → RuR} {v0 d : Nat} (hv : IsV v0) (hd : d ≤ 4) (hpc : ∀ q, q ≤ min n mo → Gd (min n mo) q (pc q)) (hg : d < 4 → ∀ (q : Nat) (L : List Int32) (w : US), q ≤ min n mo → Rc n mo c q true w → Cd v0 L w → L.length ≤ q → CR n mo c v0 L (pc q) w (g v0 (nI (d + 1)) w)) {L : List Int32} (h : Rc n mo c p true u) (hL : Cd v0 L u) (hl : L.length ≤ p) (hp : p ≤ min n mo) : CR n mo c v0 L (smR n mo c pc d p) u (GX6_readSum g v0 (nI d) u) := by
  obtain ⟨w, e1, r1, f1, n1, c1⟩ := prd_c ht hM hv hd hpc hg h hL hl hp
  unfold GX6_readSum
  rw [gd_t (isV_r hv), e1, oVs]
  refine chn_c (ix := 4) (bs := 2003) ht hM hv (Or.inr (Or.inl ⟨rfl, rfl⟩)) (fun x => GX6_readProduct g v0 (nI d) x) (fun q hq => pd_gd hpc hq) (fun q L w hq hr hc hl => prd_c ht hM hv hd hpc hg hr hc hl hq) (fun f x w => fX6_readSum_8 g v0 (nI d) f x w) (fun f w => ?_) (fun f i q ok w hi hr ho => ?_) (fun f i q j w hi hr ho => ?_) hl 40 0 FU _ w (by omega) (show 40 < FU by decide) (pd_gd hpc hp) r1 f1 n1 c1
  · rw [fX6_readSum_8, if_pos (show (40 : Int32) ≤ nI 40 by decide)]
  · rw [fX6_readSum_8, if_neg (show ¬ (40 : Int32) ≤ nI i from nI_ge (b := 40) (by omega) (by omega)), peek_c ht hr, oBs]
    cases ok with
    | false => rw [pk_f, if_neg (by decide), if_neg (by decide)]
    | true =>
      have ho' := ho.resolve_left (by decide)
      rw [if_neg (show ¬ pkV n mo c q true = 43 from pk_ne2 ht (s := 43) (by decide) (fun w => ((ix4 _ (ht.2.2 q (by omega))).1 (am_no ho' w)).1)), if_neg (show ¬ pkV n mo c q true = 45 from pk_ne2 ht (s := 45) (by decide) (fun w => ((ix4 _ (ht.2.2 q (by omega))).1 (am_no ho' w)).2))]
  · have hq := am_p ho
    rw [fX6_readSum_8, if_neg (show ¬ (40 : Int32) ≤ nI i from nI_ge (b := 40) (by omega) (by omega)), peek_c ht hr, oBs, pk_y hq]
    rcases (ix4 _ (ht.2.2 q (by omega))).2 (am_so ho) with w | w
    · rw [w, if_pos (show nI 43 = 43 from rfl)]; rfl
    · rw [w, if_neg (show ¬ nI 45 = 43 by decide), if_pos (show nI 45 = 45 from rfl)]; rfl
def cmpK (g : Nat → Int32 → US → Option US) (v0 : Nat) (d : Int32) (K : US → Option US) (r : Int32) (w : US) : Option US := oB (fX5_passes r w) fun _ u1 => oV (GX6_readSum g v0 d u1) fun u2 => oV (fX6_emit v0 r u2) fun u3 => K u3
def cmpL (g : Nat → Int32 → US → Option US) (v0 : Nat) (d : Int32) : Nat → Int32 → US → Option US
  | 0, _, w => some w
  | f + 1, x, w => if x = 40 then some w else oB (fX5_peek w) fun r u2 => (if r = 60 then cmpK g v0 d (cmpL g v0 d f (x + 1)) r u2 else (if r = 62 then cmpK g v0 d (cmpL g v0 d f (x + 1)) r u2 else (if r = 61 then cmpK g v0 d (cmpL g v0 d f (x + 1)) r u2 else some u2)))
theorem cmp_c (ht : Tok n mo c) (hM : min n mo ≤ 40) {g : Nat → Int32 → US → Option US} {pc : Nat → RuR} {v0 d : Nat} (hv : IsV v0) (hd : d ≤ 4) (hpc : ∀ q, q ≤ min n mo → Gd (min n mo) q (pc q)) (hg : d < 4 → ∀ (q : Nat) (L : List Int32) (w : US), q ≤ min n mo → Rc n mo c q true w → Cd v0 L w → L.length ≤ q → CR n mo c v0 L (pc q) w (g v0 (nI (d + 1)) w)) {L : List Int32} (h : Rc n mo c p true u) (hL : Cd v0 L u) (hl : L.length ≤ p) (hp : p ≤ min n mo) : CR n mo c v0 L (cpR n mo c pc d p) u (GX6_readComparison g v0 (nI d) u) := by
  obtain ⟨w, e1, r1, f1, n1, c1⟩ := sum_c ht hM hv hd hpc hg h hL hl hp
  unfold GX6_readComparison
  rw [gd_t (isV_r hv), e1, oVs]
  have key := chn_c (u := u) (ix := 3) (bs := 2000) ht hM hv (Or.inl ⟨rfl, rfl⟩) (fun x => GX6_readSum g v0 (nI d) x) (fun q hq => sm_gd (d := d) hpc hq) (fun q L w hq hr hc hl => sum_c ht hM hv hd hpc hg hr hc hl hq) (fun f x w => cmpL g v0 (nI d) f x w) (fun f w => if_pos rfl) (fun f i q ok w hi hr ho => ?_) (fun f i q j w hi hr ho => ?_) hl 1 39 2 _ w (by omega) (by omega) (sm_gd hpc hp) r1 f1 n1 c1
  · rw [cmpL, if_neg (show ¬ nI 39 = 40 by decide)] at key
    exact key
  · have hne : ¬ nI i = 40 := fun x => by have := congrArg Int32.toInt x; rw [nI_toInt (by omega)] at this; have h4 : (40 : Int32).toInt = 40 := rfl; omega
    rw [cmpL, if_neg hne, peek_c ht hr, oBs]
    cases ok with
    | false => rw [pk_f, if_neg (by decide), if_neg (by decide), if_neg (by decide)]
    | true =>
      have ho' := ho.resolve_left (by decide)
      rw [if_neg (show ¬ pkV n mo c q true = 60 from pk_ne2 ht (s := 60) (by decide) (fun w => ((ix3 _ (ht.2.2 q (by omega))).1 (am_no ho' w)).1)), if_neg (show ¬ pkV n mo c q true = 62 from pk_ne2 ht (s := 62) (by decide) (fun w => ((ix3 _ (ht.2.2 q (by omega))).1 (am_no ho' w)).2.1)), if_neg (show ¬ pkV n mo c q true = 61 from pk_ne2 ht (s := 61) (by decide) (fun w => ((ix3 _ (ht.2.2 q (by omega))).1 (am_no ho' w)).2.2))]
  · have hne : ¬ nI i = 40 := fun x => by have := congrArg Int32.toInt x; rw [nI_toInt (by omega)] at this; have h4 : (40 : Int32).toInt = 40 := rfl; omega
    have hq := am_p ho
    rw [cmpL, if_neg hne, peek_c ht hr, oBs, pk_y hq]
    rcases (ix3 _ (ht.2.2 q (by omega))).2 (am_so ho) with w | w | w
    · rw [w, if_pos (show nI 60 = 60 from rfl)]; rfl
    · rw [w, if_neg (show ¬ nI 62 = 60 by decide), if_pos (show nI 62 = 62 from rfl)]; rfl
    · rw [w, if_neg (show ¬ nI 61 = 60 by decide), if_neg (show ¬ nI 61 = 62 by decide), if_pos (show nI 61 = 61 from rfl)]; rfl
/-- the class reads a rule: j levels are left on its side, k in the pure reading -/
theorem rul_c (ht : Tok n mo c) (hM : min n mo ≤ 40) {v0 : Nat} (hv : IsV v0) : ∀ (k j d : Nat), d + k = 5 → k ≤ j → 0 < k → ∀ (p : Nat) (L : List Int32) (u : US), p ≤ min n mo → Rc n mo c p true u → Cd v0 L u → L.length ≤ p → CR n mo c v0 L (ruR n mo c k d p) u (fX6_readComparison j v0 (nI d) u)
  | 0, _, _, _, _, h0 => absurd h0 (Nat.lt_irrefl 0)
  | k + 1, j, d, hd, hj, _ => fun p L u hp h hL hl => by
    obtain ⟨j, rfl⟩ : ∃ j', j = j' + 1 := ⟨j - 1, (by omega)⟩
    show CR n mo c v0 L (cpR n mo c (ruR n mo c k (d + 1)) d p) u (GX6_readComparison (fX6_readComparison j) v0 (nI d) u)
    exact cmp_c ht hM hv (by omega) (fun q hq => ru_gd k (d + 1) q hq) (fun hd4 q L w hq hr hc hl => rul_c ht hM hv k j (d + 1) (by omega) (by omega) (by omega) q L w hq hr hc hl) h hL hl hp
