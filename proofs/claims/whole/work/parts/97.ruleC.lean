/-! rule: the class reads -/
variable {D : DD} {m m' : MM} {e r : Nat} {u v w : US} {n mo p : Nat} {c : Nat → Nat} {ok : Bool}
/-- which rule is being written -/
def IsV (v0 : Nat) : Prop := v0 = 13 ∨ v0 = 14
def FR (v0 : Nat) (u v : US) : Prop := (v0 = 13 → Fm [(2, 2), (2, 3), (13, 2)] [43] [] u v) ∧ (v0 = 14 → Fm [(2, 2), (2, 3), (14, 2)] [45] [] u v)
theorem FR.rf {v0 : Nat} : FR v0 u u := ⟨fun _ => Fm.rf, fun _ => Fm.rf⟩
theorem FR.trans {v0 : Nat} (h : FR v0 u v) (h2 : FR v0 v w) : FR v0 u w := ⟨fun q => (h.1 q).trans (h2.1 q), fun q => (h.2 q).trans (h2.2 q)⟩
theorem FR.fc {v0 : Nat} (h : Fc u v) : FR v0 u v := ⟨fun _ => h.mono rfl rfl rfl, fun _ => h.mono rfl rfl rfl⟩
/-- the codes written so far -/
def Cd (v0 : Nat) (L : List Int32) (u : US) : Prop := gI u v0 2 = nI L.length ∧ L.length ≤ 40 ∧ codL (u.2.1 (fpt v0 0)) L.length = L
def Cn (v0 : Nat) (u : US) : Prop := ∃ a : Nat, a ≤ 40 ∧ gI u v0 2 = nI a
theorem Cd.cn {v0 : Nat} {L : List Int32} (h : Cd v0 L u) : Cn v0 u := ⟨_, h.2.1, h.1⟩
theorem isV_r {v0 : Nat} (h : IsV v0) : isRul v0 = true := by rcases h with rfl | rfl <;> rfl
theorem Cd.fc {v0 : Nat} {L : List Int32} (hv : IsV v0) (h : Cd v0 L u) (f : Fc u v) : Cd v0 L v := by
  rcases hv with rfl | rfl
  · exact ⟨(f.i 13 2 rfl).trans h.1, h.2.1, by rw [show fpt 13 0 = 43 from rfl, f.a 43 rfl]; exact h.2.2⟩
  · exact ⟨(f.i 14 2 rfl).trans h.1, h.2.1, by rw [show fpt 14 0 = 45 from rfl, f.a 45 rfl]; exact h.2.2⟩
theorem Cn.fc {v0 : Nat} (hv : IsV v0) (h : Cn v0 u) (f : Fc u v) : Cn v0 v := by
  obtain ⟨a, h1, h2⟩ := h
  rcases hv with rfl | rfl
  · exact ⟨a, h1, (f.i 13 2 rfl).trans h2⟩
  · exact ⟨a, h1, (f.i 14 2 rfl).trans h2⟩
theorem cod_upd {f : Nat → Int32} {L : List Int32} {x : Int32} (h : codL f L.length = L) : codL (upd f L.length x) (L.length + 1) = L ++ [x] := by
  unfold codL at h ⊢
  rw [List.range_succ, List.map_append, List.map_singleton, pk_us]
  congr 1
  refine Eq.trans (List.map_congr_left fun j hj => ?_) h
  exact pk_un (by have := List.mem_range.mp hj; omega)
theorem emit_c {v0 : Nat} (hv : IsV v0) {L : List Int32} (h : Cd v0 L u) (hl : L.length < 40) (x : Int32) (hr : Rc n mo c p ok u) : ∃ v, fX6_emit v0 x u = some v ∧ Cd v0 (L ++ [x]) v ∧ Rc n mo c p ok v ∧ FR v0 u v := by
  unfold fX6_emit
  obtain ⟨h1, h2, h3⟩ := h
  have i1 := inb_nI (show L.length < 40 by omega) (show 40 < 2 ^ 31 by decide)
  rw [gd_t (isV_r hv), h1, if_neg (show ¬ (40 : Int32) ≤ nI L.length from nI_ge (b := 40) (by omega) (by omega))]
  rcases hv with rfl | rfl
  · rw [show fpt 13 0 = 43 from rfl, show ln 43 = 40 from rfl, gd_t i1, nxs, nxs]
    refine ⟨_, rfl, ⟨?_, ?_, ?_⟩, ?_, ⟨fun _ => (Fm.rf.sA rfl).sI rfl, fun q => absurd q (by decide)⟩⟩
    · show gI u 13 2 + 1 = _
      rw [h1, nI_1, List.length_append]; rfl
    · rw [List.length_append]; exact hl
    · show codL (upd (u.2.1 43) (nI L.length).toNatClampNeg x) (L ++ [x]).length = _
      rw [nI_clamp (by omega), List.length_append]; exact cod_upd h3
    · exact hr.fm (a := [(13, 2)]) (b := [43]) (d := []) ((Fm.rf.sA rfl).sI rfl) rfl rfl
  · rw [show fpt 14 0 = 45 from rfl, show ln 45 = 40 from rfl, gd_t i1, nxs, nxs]
    refine ⟨_, rfl, ⟨?_, ?_, ?_⟩, ?_, ⟨fun q => absurd q (by decide), fun _ => (Fm.rf.sA rfl).sI rfl⟩⟩
    · show gI u 14 2 + 1 = _
      rw [h1, nI_1, List.length_append]; rfl
    · rw [List.length_append]; exact hl
    · show codL (upd (u.2.1 45) (nI L.length).toNatClampNeg x) (L ++ [x]).length = _
      rw [nI_clamp (by omega), List.length_append]; exact cod_upd h3
    · exact hr.fm (a := [(14, 2)]) (b := [45]) (d := []) ((Fm.rf.sA rfl).sI rfl) rfl rfl
theorem emit_n {v0 : Nat} (hv : IsV v0) (h : Cn v0 u) (x : Int32) (hr : Rc n mo c p ok u) : ∃ v, fX6_emit v0 x u = some v ∧ Cn v0 v ∧ Rc n mo c p ok v ∧ FR v0 u v := by
  obtain ⟨a, h1, h2⟩ := h
  unfold fX6_emit
  rw [gd_t (isV_r hv), h2]
  by_cases q : a = 40
  · rw [if_pos (show (40 : Int32) ≤ nI a by rw [q]; decide)]
    exact ⟨u, rfl, ⟨a, h1, h2⟩, hr, FR.rf⟩
  · rw [if_neg (show ¬ (40 : Int32) ≤ nI a from nI_ge (b := 40) (by omega) (by omega))]
    have i1 := inb_nI (show a < 40 by omega) (show 40 < 2 ^ 31 by decide)
    rcases hv with rfl | rfl
    · rw [show fpt 13 0 = 43 from rfl, show ln 43 = 40 from rfl, gd_t i1, nxs, nxs]
      refine ⟨_, rfl, ⟨a + 1, (by omega), ?_⟩, ?_, ⟨fun _ => (Fm.rf.sA rfl).sI rfl, fun q => absurd q (by decide)⟩⟩
      · show gI u 13 2 + 1 = _
        rw [h2, nI_1]
      · exact hr.fm (a := [(13, 2)]) (b := [43]) (d := []) ((Fm.rf.sA rfl).sI rfl) rfl rfl
    · rw [show fpt 14 0 = 45 from rfl, show ln 45 = 40 from rfl, gd_t i1, nxs, nxs]
      refine ⟨_, rfl, ⟨a + 1, (by omega), ?_⟩, ?_, ⟨fun q => absurd q (by decide), fun _ => (Fm.rf.sA rfl).sI rfl⟩⟩
      · show gI u 14 2 + 1 = _
        rw [h2, nI_1]
      · exact hr.fm (a := [(14, 2)]) (b := [45]) (d := []) ((Fm.rf.sA rfl).sI rfl) rfl rfl
theorem atd_c (ht : Tok n mo c) (h : Rc n mo c p ok u) : fX5_atDigit u = some (bI (ok && isd n mo c p), u) := by
  unfold fX5_atDigit
  rw [peek_c ht h, oBs, peek_c ht h]
  cases ok with
  | false => rw [pk_f, if_pos (show (-1 : Int32) < 48 by decide)]; rfl
  | true =>
    by_cases q : p < min n mo
    · have hc := ht.2.2 p (by omega)
      rw [pk_y q, Bool.true_and]
      unfold isd sgO
      by_cases q1 : 48 ≤ c p
      · rw [if_neg (show ¬ nI (c p) < 48 from nI_nlt (b := 48) (by omega) (by omega))]
        by_cases q2 : c p < 58
        · rw [oBs, if_neg (show ¬ (57 : Int32) < nI (c p) from nI_nlt (a := 57) (by omega) (by omega)), if_pos ⟨q, q1, q2⟩]; rfl
        · rw [oBs, if_pos (show (57 : Int32) < nI (c p) from nI_lt (a := 57) (by omega) (by omega)), if_neg (fun w => q2 w.2.2)]; rfl
      · rw [if_pos (show nI (c p) < 48 from nI_lt (b := 48) (by omega) (by omega)), if_neg (fun w => q1 w.2.1)]; rfl
    · rw [pk_n q, if_pos (show (-1 : Int32) < 48 by decide)]
      unfold isd sgO
      rw [if_neg (fun w => q w.1)]; rfl
/-- behind a fault nothing more is read -/
def Ff (n mo : Nat) (c : Nat → Nat) (p v0 : Nat) (u : US) (o : Option US) : Prop := ∃ v, o = some v ∧ Rc n mo c p false v ∧ Cn v0 v ∧ FR v0 u v
theorem opd_f (ht : Tok n mo c) {g : Nat → Int32 → US → Option US} {v0 : Nat} (hv : IsV v0) {d : Int32} (h : Rc n mo c p false u) (hc : Cn v0 u) : Ff n mo c p v0 u (GX6_readOperand g v0 d u) := by
  unfold GX6_readOperand
  obtain ⟨v, e1, r1, f1⟩ := dem_c ht.1 h false
  rw [gd_t (isV_r hv), peek_c ht h, oBs, pk_f, if_neg (by decide), atd_c ht h, oBs, Bool.false_and, if_pos (show bI false = 0 from rfl), show fX6_isName (-1) u = some (bI false, u) from rfl, oBs, e1, oBs, Bool.false_and, if_pos (show bI false = 0 from rfl)]
  exact ⟨v, rfl, r1, hc.fc hv f1, FR.fc f1⟩
theorem neg_f (ht : Tok n mo c) {g : Nat → Int32 → US → Option US} {v0 : Nat} (hv : IsV v0) {d : Int32} (h : Rc n mo c p false u) (hc : Cn v0 u) : Ff n mo c p v0 u (GX6_readNegated g v0 d u) := by
  unfold GX6_readNegated
  obtain ⟨v, e1, r1, f1⟩ := pass_c ht h (s := 45) (by decide)
  rw [Bool.false_and, if_neg (by decide)] at r1
  rw [Bool.false_and] at e1
  obtain ⟨w, e2, r2, c2, f2⟩ := opd_f ht (g := g) hv (d := d) r1 (hc.fc hv f1)
  rw [gd_t (isV_r hv), show FU = 4095 + 1 from rfl, fX6_readNegated_5, if_neg (by decide), show (45 : Int32) = nI 45 from rfl, e1, oBs, if_pos (show bI false = 0 from rfl)]
  unfold fX6_readNegated_37
  rw [e2, oVs, if_pos rfl]
  exact ⟨w, rfl, r2, c2, (FR.fc f1).trans f2⟩
theorem prd_f (ht : Tok n mo c) {g : Nat → Int32 → US → Option US} {v0 : Nat} (hv : IsV v0) {d : Int32} (h : Rc n mo c p false u) (hc : Cn v0 u) : Ff n mo c p v0 u (GX6_readProduct g v0 d u) := by
  unfold GX6_readProduct
  obtain ⟨w, e2, r2, c2, f2⟩ := neg_f ht (g := g) hv (d := d) h hc
  rw [gd_t (isV_r hv), e2, oVs, show FU = 4095 + 1 from rfl, fX6_readProduct_8, if_neg (by decide), peek_c ht r2, oBs, pk_f, if_neg (by decide), if_neg (by decide)]
  exact ⟨w, rfl, r2, c2, f2⟩
theorem sum_f (ht : Tok n mo c) {g : Nat → Int32 → US → Option US} {v0 : Nat} (hv : IsV v0) {d : Int32} (h : Rc n mo c p false u) (hc : Cn v0 u) : Ff n mo c p v0 u (GX6_readSum g v0 d u) := by
  unfold GX6_readSum
  obtain ⟨w, e2, r2, c2, f2⟩ := prd_f ht (g := g) hv (d := d) h hc
  rw [gd_t (isV_r hv), e2, oVs, show FU = 4095 + 1 from rfl, fX6_readSum_8, if_neg (by decide), peek_c ht r2, oBs, pk_f, if_neg (by decide), if_neg (by decide)]
  exact ⟨w, rfl, r2, c2, f2⟩
/-- what the class has after a reading -/
def CR (n mo : Nat) (c : Nat → Nat) (v0 : Nat) (L : List Int32) (r : RuR) (u : US) (o : Option US) : Prop := ∃ v, o = some v ∧ Rc n mo c r.1 r.2.1 v ∧ FR v0 u v ∧ Cn v0 v ∧ (r.2.1 = true → Cd v0 (L ++ r.2.2.1) v)
theorem dg1_c (ht : Tok n mo c) (h : Rc n mo c p true u) (hd : isd n mo c p = true) : ∃ v, fX5_digit 10 u = some (nI (c p - 48), v) ∧ Rc n mo c (p + 1) true v ∧ Fc u v := by
  obtain ⟨v, e1, r1, f1⟩ := dig_c ht (s := (p, true)) h (k := 10) (by decide)
  unfold isd at hd
  cases ho : sgO n mo c 48 10 p with
  | none => rw [ho] at hd; cases hd
  | some x =>
    obtain ⟨_, _, _, a3⟩ := sg_hp ho
    rw [show sgO n mo c 48 10 (p, true).1 = some x from ho] at e1 r1
    refine ⟨v, ?_, r1, f1⟩
    rw [show (10 : Int32) = nI 10 from rfl, e1, ← a3]; rfl
theorem num_c (ht : Tok n mo c) {v0 : Nat} (hv : IsV v0) {L : List Int32} (h : Rc n mo c p true u) (hL : Cd v0 L u) (hl : L.length < 40) (hd : isd n mo c p = true) : CR n mo c v0 L (p + nuL n mo c p, true, [nI (1000 + nuV c p (nuL n mo c p))], [nI (nuV c p (nuL n mo c p))]) u (fX6_readNumber v0 u) := by
  have fin : ∀ (k : Nat) (w : US), Rc n mo c (p + k) true w → Fc u w → CR n mo c v0 L (p + k, true, [nI (1000 + nuV c p k)], [nI (nuV c p k)]) u (fX6_readNumber_34 v0 (nI (nuV c p k)) w) := by
    intro k w hr hf
    obtain ⟨v, e1, c1, r1, f1⟩ := emit_c hv (hL.fc hv hf) hl (nI (1000 + nuV c p k)) hr
    unfold fX6_readNumber_34
    rw [show (1000 : Int32) + nI (nuV c p k) = nI (1000 + nuV c p k) from nI_add 1000 _, e1, oVs]
    exact ⟨v, rfl, r1, (FR.fc hf).trans f1, c1.cn, fun _ => c1⟩
  have step : ∀ (f k : Nat) (w : US), k < 3 → Rc n mo c (p + k) true w → Fc u w → isd n mo c (p + k) = true → ∃ w', fX6_readNumber_4 v0 (f + 1) (nI (nuV c p k)) (nI k) w = fX6_readNumber_4 v0 f (nI (nuV c p (k + 1))) (nI (k + 1)) w' ∧ Rc n mo c (p + (k + 1)) true w' ∧ Fc u w' := by
    intro f k w hk hr hf hi
    obtain ⟨w', e1, r1, f1⟩ := dg1_c ht hr hi
    refine ⟨w', ?_, r1, hf.trans f1⟩
    rw [fX6_readNumber_4, if_neg (show ¬ (3 : Int32) ≤ nI k from nI_ge (b := 3) hk (by omega)), atd_c ht hr, oBs, Bool.true_and, hi, if_neg (show ¬ bI true = 0 by decide), e1, oBs, show (10 : Int32) = nI 10 from rfl, pk_mul, nI_add, nI_1]; rfl
  have stop : ∀ (f k : Nat) (w : US), k ≤ 3 → Rc n mo c (p + k) true w → Fc u w → (k = 3 ∨ isd n mo c (p + k) = false) → CR n mo c v0 L (p + k, true, [nI (1000 + nuV c p k)], [nI (nuV c p k)]) u (fX6_readNumber_4 v0 (f + 1) (nI (nuV c p k)) (nI k) w) := by
    intro f k w hk hr hf hi
    rw [fX6_readNumber_4]
    by_cases q : k = 3
    · rw [if_pos (show (3 : Int32) ≤ nI k by rw [q]; decide)]; exact fin k w hr hf
    · have hi' : isd n mo c (p + k) = false := hi.resolve_left q
      rw [if_neg (show ¬ (3 : Int32) ≤ nI k from nI_ge (b := 3) (by omega) (by omega)), atd_c ht hr, oBs, hi', Bool.and_false, if_pos (show bI false = 0 from rfl)]; exact fin k w hr hf
  unfold fX6_readNumber
  rw [gd_t (isV_r hv), show FU = 4092 + 1 + 1 + 1 + 1 from rfl]
  obtain ⟨w1, e1, r1, f1⟩ := step (4092 + 1 + 1 + 1) 0 u (by omega) h Fm.rf hd
  rw [show fX6_readNumber_4 v0 (4092 + 1 + 1 + 1 + 1) 0 0 u = fX6_readNumber_4 v0 (4092 + 1 + 1 + 1 + 1) (nI (nuV c p 0)) (nI 0) u from rfl, e1]
  unfold nuL
  cases q1 : isd n mo c (p + 1) with
  | false => rw [if_neg (by decide)]; exact stop _ 1 w1 (by omega) r1 f1 (Or.inr q1)
  | true =>
    rw [if_pos rfl]
    obtain ⟨w2, e2, r2, f2⟩ := step (4092 + 1 + 1) 1 w1 (by omega) r1 f1 q1
    rw [e2]
    cases q2 : isd n mo c (p + 2) with
    | false => rw [if_neg (by decide)]; exact stop _ 2 w2 (by omega) r2 f2 (Or.inr q2)
    | true =>
      rw [if_pos rfl]
      obtain ⟨w3, e3, r3, f3⟩ := step (4092 + 1) 2 w2 (by omega) r2 f2 q2
      rw [e3]
      exact stop _ 3 w3 (by omega) r3 f3 (Or.inl rfl)
