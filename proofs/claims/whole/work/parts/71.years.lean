/-! years -/
variable {D : DD} {m m' : MM} {e r : Nat} {u v : US}
def nxt (x : Int32) : Int32 := x * 1103515245 + 12345
def rN (x : Int32) : Nat := x.toBitVec.toNat / 2 ^ 16
theorem rN_lt (x : Int32) : rN x < 65536 := by
  have := x.toBitVec.isLt
  unfold rN
  omega
theorem ush16 (x : Int32) : ush x 16 = nI (rN x) := by
  obtain ⟨n, hn, rfl⟩ := wb_of32 x
  have := pk_ushrN hn 16 16 (by decide)
  rw [rN, pk_tn hn]
  exact this
theorem draw_c {k : Nat} (h0 : 0 < k) (hk : k ≤ 8) {x : Int32} (hx : gI u 0 13 = x) : fX11_draw (nI k) u = some (nI (rN (nxt x) % k), sI u 0 13 (nxt x)) := by
  have h1 := rN_lt (nxt x)
  unfold fX11_draw
  rw [hx, nxs, if_neg (nI_nle h0 (by omega)), if_neg (nI_ne0 h0 (by omega)), show gI (sI u 0 13 (x * 1103515245 + 12345)) 0 13 = nxt x from rfl, ush16, pk_rem (by omega) h0 (by omega)]; rfl
theorem draw_m {k : Nat} (h0 : 0 < k) (hk : k ≤ 8) {x : Int32} (hx : gI u 47 53 = x) : fX12_draws (nI k) u = some (nI (rN (nxt x) % k), sI u 47 53 (nxt x)) := by
  have h1 := rN_lt (nxt x)
  unfold fX12_draws
  rw [hx, nxs, if_neg (nI_ne0 h0 (by omega)), show gI (sI u 47 53 (x * 1103515245 + 12345)) 47 53 = nxt x from rfl, ush16, pk_rem (by omega) h0 (by omega)]; rfl
/-- one year: the number drawn last, and the moment -/
def yrS (D : DD) (s : Int32 × MM) : Int32 × MM :=
  if rN (nxt s.1) % 4 < 2 then (nxt s.1, goM D s.2)
  else if rN (nxt s.1) % 4 = 2 then
    (if 0 < dP D ∧ 0 < dM D then (nxt (nxt (nxt s.1)), mSO s.2 (rN (nxt (nxt s.1)) % dP D) (some (rN (nxt (nxt (nxt s.1))) % dM D))) else (nxt s.1, s.2))
  else (if 0 < dP D then (nxt (nxt s.1), mSB s.2 (mB s.2 ||| 2 ^ (rN (nxt (nxt s.1)) % dP D))) else (nxt s.1, s.2))
def yrI (D : DD) (s : Int32 × MM) : Nat → Int32 × MM
  | 0 => s
  | n + 1 => yrS D (yrI D s n)
theorem Cw.fm6 (h : Cw D m 6 u) {a : List (Nat × Nat)} {b c : List Nat} (f : Fm a b c u v) (q0 : [(3, 0), (3, 1), (3, 2), (3, 3), (3, 4), (13, 2), (14, 2), (47, 26), (6, 3), (6, 4)].all (fun x => !a.contains x) = true) (q : [16, 17, 18, 19, 20, 21, 43, 45, 59, 28, 29, 30].all (fun x => !b.contains x) = true) : Cw D m 6 v := by
  simp only [List.all_cons, List.all_nil, Bool.and_true, Bool.and_eq_true, Bool.not_eq_true'] at q0 q
  obtain ⟨a0, a1, a2, a3, a4, a5, a6, a7, a8, a9⟩ := q0
  obtain ⟨b0, b1, b2, b3, b4, b5, b6, b7, b8, b9, b10, b11⟩ := q
  exact ⟨h.1, h.2.1, h.2.2.1.fm f (by simp only [List.all_cons, List.all_nil, a0, a1, a2, a3, a4, Bool.not_false, Bool.and_true]) (by simp only [List.all_cons, List.all_nil, b0, b1, b2, b3, b4, b5, Bool.not_false, Bool.and_true]), h.2.2.2.1.fm f (by simp only [List.all_cons, List.all_nil, a5, a6, a7, Bool.not_false, Bool.and_true]) (by simp only [List.all_cons, List.all_nil, b6, b7, b8, Bool.not_false, Bool.and_true]), h.2.2.2.2.1, h.2.2.2.2.2.fm f (by simp only [List.all_cons, List.all_nil, a8, a9, Bool.not_false, Bool.and_true]) (by simp only [show fpt 6 0 = 28 from rfl, show fpt 6 1 = 29 from rfl, show fpt 6 2 = 30 from rfl, List.all_cons, List.all_nil, b9, b10, b11, Bool.not_false, Bool.and_true])⟩
theorem or_pow {a n p : Nat} (ha : a < 2 ^ n) (hp : p < n) : a ||| 2 ^ p < 2 ^ n := Nat.or_lt_two_pow ha (wb_lt2 hp)
theorem live_c (h : Cw D m 6 u) {x : Int32} (hx : gI u 0 13 = x) : ∃ v, fX11_liveYear u = some v ∧ Cw D (yrS D (x, m)).2 6 v ∧ gI v 0 13 = (yrS D (x, m)).1 ∧ Fr u v := by
  have b := h.b
  have h4 : rN (nxt x) % 4 < 4 := Nat.mod_lt _ (by omega)
  have d1 := draw_c (u := u) (k := 4) (by omega) (by omega) hx
  have h1 : Cw D m 6 (sI u 0 13 (nxt x)) := h.fm6 (a := [(0, 13)]) (b := []) (c := []) (Fm.rf.sI rfl) rfl rfl
  have f1 : Fr u (sI u 0 13 (nxt x)) := Fm.rf.sI rfl
  unfold fX11_liveYear yrS
  rw [show (4 : Int32) = nI 4 from rfl, d1, oBs]
  dsimp only
  by_cases q1 : rN (nxt x) % 4 < 2
  · obtain ⟨v, e2, h2, f2⟩ := walk_c h1
    rw [if_neg (show ¬ (2 : Int32) ≤ nI (rN (nxt x) % 4) from nI_ge (b := 2) q1 (by omega)), e2, oVs, if_pos q1]
    exact ⟨v, rfl, h2, (f2.i 0 13 rfl).trans rfl, f1.trans (f2.mono rfl rfl rfl)⟩
  · rw [if_pos (show (2 : Int32) ≤ nI (rN (nxt x) % 4) from nI_le (a := 2) (by omega) (by omega)), if_neg q1, h1.xP, h1.xM]
    by_cases q2 : rN (nxt x) % 4 = 2
    · rw [q2, if_pos (show nI 2 = 2 from rfl), if_pos rfl]
      by_cases q3 : 0 < dP D
      · rw [if_neg (nI_nle q3 (by omega))]
        by_cases q4 : 0 < dM D
        · have d2 := draw_c (u := sI u 0 13 (nxt x)) q3 (by omega) (show gI (sI u 0 13 (nxt x)) 0 13 = nxt x from rfl)
          have h2 : Cw D m 6 (sI (sI u 0 13 (nxt x)) 0 13 (nxt (nxt x))) := h1.fm6 (a := [(0, 13)]) (b := []) (c := []) (Fm.rf.sI rfl) rfl rfl
          have d3 := draw_c (u := sI (sI u 0 13 (nxt x)) 0 13 (nxt (nxt x))) q4 (by omega) (show gI (sI (sI u 0 13 (nxt x)) 0 13 (nxt (nxt x))) 0 13 = nxt (nxt x) from rfl)
          have h3 : Cw D m 6 (sI (sI (sI u 0 13 (nxt x)) 0 13 (nxt (nxt x))) 0 13 (nxt (nxt (nxt x)))) := h2.fm6 (a := [(0, 13)]) (b := []) (c := []) (Fm.rf.sI rfl) rfl rfl
          have l2 : rN (nxt (nxt x)) % dP D < dP D := Nat.mod_lt _ q3
          have l3 : rN (nxt (nxt (nxt x))) % dM D < dM D := Nat.mod_lt _ q4
          rw [if_neg (nI_nle q4 (by omega)), d2, oBs, h2.xM, d3, oBs, gdi (show rN (nxt (nxt x)) % dP D < 8 by omega) (by omega), nxs, if_pos ⟨q3, q4⟩]
          exact ⟨_, rfl, h3.sO l2 (fun r hr => by cases hr; exact l3), rfl, ((f1.sI rfl).sI rfl).sA rfl⟩
        · rw [Nat.eq_zero_of_not_pos q4, if_pos (show nI 0 ≤ 0 by decide), fX11_liveYear_85, if_neg (show ¬ nI 2 = 3 by decide), if_neg (fun q => absurd q.2 (Nat.lt_irrefl 0))]
          exact ⟨_, rfl, h1, rfl, f1⟩
      · rw [Nat.eq_zero_of_not_pos q3, if_pos (show nI 0 ≤ 0 by decide), fX11_liveYear_85, if_neg (show ¬ nI 2 = 3 by decide), if_neg (fun q => absurd q.1 (Nat.lt_irrefl 0))]
        exact ⟨_, rfl, h1, rfl, f1⟩
    · have q5 : rN (nxt x) % 4 = 3 := by omega
      rw [q5, if_neg (show ¬ nI 3 = 2 by decide), if_neg (by decide), fX11_liveYear_85, if_pos (show nI 3 = 3 from rfl), h1.xP]
      by_cases q3 : 0 < dP D
      · have d2 := draw_c (u := sI u 0 13 (nxt x)) q3 (by omega) (show gI (sI u 0 13 (nxt x)) 0 13 = nxt x from rfl)
        have h2 : Cw D m 6 (sI (sI u 0 13 (nxt x)) 0 13 (nxt (nxt x))) := h1.fm6 (a := [(0, 13)]) (b := []) (c := []) (Fm.rf.sI rfl) rfl rfl
        have l2 : rN (nxt (nxt x)) % dP D < dP D := Nat.mod_lt _ q3
        rw [if_neg (nI_nle q3 (by omega)), d2, oBs, nxs, h1.gB, or_b (by omega), if_pos q3]
        exact ⟨_, rfl, h2.sB (or_pow h.2.2.2.2.1.2.2.2 l2), rfl, (f1.sI rfl).sI rfl⟩
      · rw [Nat.eq_zero_of_not_pos q3, if_pos (show nI 0 ≤ 0 by decide), if_neg (Nat.lt_irrefl 0)]
        exact ⟨_, rfl, h1, rfl, f1⟩
def suR (D : DD) (m : MM) (k : Nat) : Nat := fb_sm (fun r => pcN (seN D m r)) k
theorem y47_c (h : Cw D m 6 u) (a b : Int32) (K : Int32 → Int32 → US → Option (Int32 × US)) (s y : Nat) : ∃ v, Sx u v ∧ fX11_years_47 a b K FU (nI s) (nI y) 0 u = K (nI (s + suR D m (dM D))) (nI (y + 1)) v := by
  have bb := h.b
  refine lpF (fun f (z : Int32 × Int32) w => fX11_years_47 a b K f z.1 (nI y) z.2 w) (dM D) (fun i => (nI (s + suR D m i), nI i)) (fun w => Sx u w) (fun o => ∃ v, Sx u v ∧ o = K (nI (s + suR D m (dM D))) (nI (y + 1)) v) ?_ ?_ (by omega) (nI s, 0) rfl Fm.rf
  · intro f k w hk hf
    have hw := h.sx hf
    obtain ⟨v, e1, f1⟩ := seen_c hw hk
    dsimp only
    rw [fX11_years_47, hw.xM, if_neg (nI_ge hk (by omega)), e1, oBs, bc_n (seN_256 h.2.1 k), oBs, nI_add, nI_1, Nat.add_assoc]
    exact ⟨v, hf.trans f1, rfl⟩
  · intro f w hf
    have hw := h.sx hf
    dsimp only
    rw [fX11_years_47, hw.xM, if_pos (nI_le (Nat.le_refl _) (by omega)), nI_1]
    exact ⟨w, hf, rfl⟩
theorem y150_m (h : Mw D m 56 u) (a b : Int32) (K : Int32 → Int32 → US → Option (Int32 × US)) (s y : Nat) : ∃ v, Sx u v ∧ fX12_years_150 a b K FU (nI s) (nI y) 0 u = K (nI (s + suR D m (dM D))) (nI (y + 1)) v := by
  have bb := h.b
  refine lpF (fun f (z : Int32 × Int32) w => fX12_years_150 a b K f z.1 (nI y) z.2 w) (dM D) (fun i => (nI (s + suR D m i), nI i)) (fun w => Sx u w) (fun o => ∃ v, Sx u v ∧ o = K (nI (s + suR D m (dM D))) (nI (y + 1)) v) ?_ ?_ (by omega) (nI s, 0) rfl Fm.rf
  · intro f k w hk hf
    have hw := h.sx hf
    obtain ⟨v, e1, f1⟩ := seen_m hw hk
    dsimp only
    rw [fX12_years_150, hw.xM, if_neg (nI_ge hk (by omega)), e1, oBs, bc_n (seN_256 h.2.1 k), oBs, nI_add, nI_1, Nat.add_assoc]
    exact ⟨v, hf.trans f1, rfl⟩
  · intro f w hf
    have hw := h.sx hf
    dsimp only
    rw [fX12_years_150, hw.xM, if_pos (nI_le (Nat.le_refl _) (by omega)), nI_1]
    exact ⟨w, hf, rfl⟩
def yrT (D : DD) (s : Int32 × MM) (k : Nat) : Nat := fb_sm (fun i => suR D (yrI D s (i + 1)).2 (dM D)) k
def yrL (D : DD) (s : Int32 × MM) (k : Nat) : List Int64 := [(mT (yrI D s k).2).toInt64, (nI (pcN (mB (yrI D s k).2))).toInt64]
theorem years_c (h : Cw D m 4 u) (a : Int32) {k : Nat} (h1 : 1 ≤ k) (hk : k ≤ 60) : ∃ v, fX11_years a (nI k) u = some (nI (yrT D (a, m) k), v) ∧ TolC (yrL D (a, m) k) v ∧ Ft u v := by
  have b := h.b
  have h0 : Cw D m 4 (sI u 0 13 a) := ⟨h.1, h.2.1, h.2.2.1.fm (a := [(0, 13)]) (b := []) (c := []) (Fm.rf.sI rfl) rfl rfl, h.2.2.2.1.fm (a := [(0, 13)]) (b := []) (c := []) (Fm.rf.sI rfl) rfl rfl, h.2.2.2.2.1, h.2.2.2.2.2.fm (a := [(0, 13)]) (b := []) (c := []) (Fm.rf.sI rfl) rfl rfl⟩
  obtain ⟨u1, e1, h1', f1⟩ := copy6 h0
  have k0 : Fr u (sI u 0 13 a) := Fm.rf.sI rfl
  unfold fX11_years
  rw [if_neg (show ¬ nI k < (1 : Int32) from nI_nlt (b := 1) h1 (by omega)), if_pos (show nI k ≤ (60 : Int32) from nI_le (b := 60) hk (by omega)), nxs, e1, oVs]
  refine lpE (fun f (z : Int32 × Int32) w => fX11_years_34 a (nI k) f z.1 z.2 w) k (fun i => (nI (yrT D (a, m) i), nI i)) (fun i w => Cw D (yrI D (a, m) i).2 6 w ∧ gI w 0 13 = (yrI D (a, m) i).1 ∧ Fr u w) (fun o => ∃ v, o = some (nI (yrT D (a, m) k), v) ∧ TolC (yrL D (a, m) k) v ∧ Ft u v) ?_ ?_ (by omega) (0, 0) rfl ⟨h1', f1.i 0 13 rfl, k0.trans (f1.mono rfl rfl rfl)⟩
  · rintro f i w hi ⟨hw, hx, hf⟩
    obtain ⟨v, e2, h2, x2, f2⟩ := live_c hw hx
    obtain ⟨v3, f3, e3⟩ := y47_c h2 a (nI k) (fX11_years_34 a (nI k) f) (yrT D (a, m) i) i
    left
    dsimp only
    rw [fX11_years_34, if_neg (nI_ge hi (by omega)), e2, oVs, e3]
    exact ⟨v3, ⟨h2.sx f3, (f3.i 0 13 rfl).trans x2, (hf.trans f2).trans f3.fr⟩, rfl⟩
  · rintro f w ⟨hw, hx, hf⟩
    obtain ⟨v, e2, t2, f2⟩ := tl2_c (mT (yrI D (a, m) k).2).toInt64 (nI (pcN (mB (yrI D (a, m) k).2))).toInt64 w
    dsimp only
    rw [fX11_years_34, if_pos (nI_le (Nat.le_refl _) (by omega)), hw.gB, bc_n (hw.2.2.2.2.1.b256 h.2.1), oBs, hw.gT, e2, oVs]
    exact ⟨v, rfl, t2, hf.ft.trans f2.tcft⟩
theorem year_m (h : Mw D m 56 u) {x : Int32} (hx : gI u 47 53 = x) (a b : Int32) (n s y : Nat) (hb : ¬ b ≤ nI y) : ∃ v, fX12_years_33 a b (n + 1) (nI s) (nI y) u = fX12_years_33 a b n (nI (s + suR D (yrS D (x, m)).2 (dM D))) (nI (y + 1)) v ∧ Mw D (yrS D (x, m)).2 56 v ∧ gI v 47 53 = (yrS D (x, m)).1 ∧ Fr u v := by
  have bb := h.b
  have h4 : rN (nxt x) % 4 < 4 := Nat.mod_lt _ (by omega)
  have d1 := draw_m (u := u) (k := 4) (by omega) (by omega) hx
  have h1 : Mw D m 56 (sI u 47 53 (nxt x)) := h.fm56 (a := [(47, 53)]) (b := []) (c := []) (Fm.rf.sI rfl) rfl rfl
  have f1 : Fr u (sI u 47 53 (nxt x)) := Fm.rf.sI rfl
  have fin : ∀ (w : US) (mm : MM) (xx : Int32), Mw D mm 56 w → gI w 47 53 = xx → Fr u w → ∃ v, fX12_years_150 a b (fX12_years_33 a b n) FU (nI s) (nI y) 0 w = fX12_years_33 a b n (nI (s + suR D mm (dM D))) (nI (y + 1)) v ∧ Mw D mm 56 v ∧ gI v 47 53 = xx ∧ Fr u v := by
    intro w mm xx hw hx hf
    obtain ⟨v, f2, e2⟩ := y150_m hw a b (fX12_years_33 a b n) s y
    exact ⟨v, e2, hw.sx f2, (f2.i 47 53 rfl).trans hx, hf.trans f2.fr⟩
  rw [fX12_years_33, if_neg hb, show (4 : Int32) = nI 4 from rfl, d1, oBs]
  unfold yrS
  dsimp only
  by_cases q1 : rN (nxt x) % 4 < 2
  · obtain ⟨v, e2, h2, f2⟩ := hour_m h1
    rw [if_neg (show ¬ (2 : Int32) ≤ nI (rN (nxt x) % 4) from nI_ge (b := 2) q1 (by omega)), e2, oVs, if_pos q1]
    exact fin v _ _ h2 ((f2.i 47 53 rfl).trans rfl) (f1.trans (f2.mono rfl rfl rfl))
  · rw [if_pos (show (2 : Int32) ≤ nI (rN (nxt x) % 4) from nI_le (a := 2) (by omega) (by omega)), if_neg q1, h1.xP, h1.xM]
    by_cases q2 : rN (nxt x) % 4 = 2
    · rw [q2, if_pos (show nI 2 = 2 from rfl), if_pos rfl]
      by_cases q3 : 0 < dP D
      · rw [if_neg (nI_nle q3 (by omega))]
        by_cases q4 : 0 < dM D
        · have d2 := draw_m (u := sI u 47 53 (nxt x)) q3 (by omega) (show gI (sI u 47 53 (nxt x)) 47 53 = nxt x from rfl)
          have h2 : Mw D m 56 (sI (sI u 47 53 (nxt x)) 47 53 (nxt (nxt x))) := h1.fm56 (a := [(47, 53)]) (b := []) (c := []) (Fm.rf.sI rfl) rfl rfl
          have d3 := draw_m (u := sI (sI u 47 53 (nxt x)) 47 53 (nxt (nxt x))) q4 (by omega) (show gI (sI (sI u 47 53 (nxt x)) 47 53 (nxt (nxt x))) 47 53 = nxt (nxt x) from rfl)
          have h3 : Mw D m 56 (sI (sI (sI u 47 53 (nxt x)) 47 53 (nxt (nxt x))) 47 53 (nxt (nxt (nxt x)))) := h2.fm56 (a := [(47, 53)]) (b := []) (c := []) (Fm.rf.sI rfl) rfl rfl
          have l2 : rN (nxt (nxt x)) % dP D < dP D := Nat.mod_lt _ q3
          have l3 : rN (nxt (nxt (nxt x))) % dM D < dM D := Nat.mod_lt _ q4
          rw [if_neg (nI_nle q4 (by omega)), d2, oBs, h2.xM, d3, oBs, ad16, gdi (show 16 + rN (nxt (nxt x)) % dP D < 26 by omega) (by omega), nxs, if_pos ⟨q3, q4⟩]
          exact fin _ _ _ (h3.sO l2 (x := some (rN (nxt (nxt (nxt x))) % dM D)) (fun r hr => by cases hr; exact l3)) rfl (((f1.sI rfl).sI rfl).sA rfl)
        · rw [Nat.eq_zero_of_not_pos q4, if_pos (show nI 0 ≤ 0 by decide), fX12_years_114, if_neg (show ¬ nI 2 = 3 by decide), if_neg (fun q => absurd q.2 (Nat.lt_irrefl 0))]
          have := fin _ _ _ h1 rfl f1
          rw [Nat.eq_zero_of_not_pos q4] at this
          exact this
      · rw [Nat.eq_zero_of_not_pos q3, if_pos (show nI 0 ≤ 0 by decide), fX12_years_114, if_neg (show ¬ nI 2 = 3 by decide), if_neg (fun q => absurd q.1 (Nat.lt_irrefl 0))]
        exact fin _ _ _ h1 rfl f1
    · have q5 : rN (nxt x) % 4 = 3 := by omega
      rw [q5, if_neg (show ¬ nI 3 = 2 by decide), if_neg (by decide), fX12_years_114, if_pos (show nI 3 = 3 from rfl), h1.xP]
      by_cases q3 : 0 < dP D
      · have d2 := draw_m (u := sI u 47 53 (nxt x)) q3 (by omega) (show gI (sI u 47 53 (nxt x)) 47 53 = nxt x from rfl)
        have h2 : Mw D m 56 (sI (sI u 47 53 (nxt x)) 47 53 (nxt (nxt x))) := h1.fm56 (a := [(47, 53)]) (b := []) (c := []) (Fm.rf.sI rfl) rfl rfl
        have l2 : rN (nxt (nxt x)) % dP D < dP D := Nat.mod_lt _ q3
        rw [if_neg (nI_nle q3 (by omega)), gd_t (show inb 24 26 = true from rfl), d2, oBs, gd_t (show inb 24 26 = true from rfl), nxs, h1.gB, or_b (by omega), if_pos q3]
        exact fin _ _ _ (h2.sB (or_pow h.2.2.2.2.1.2.2.2 l2)) rfl ((f1.sI rfl).sA rfl)
      · rw [Nat.eq_zero_of_not_pos q3, if_pos (show nI 0 ≤ 0 by decide), if_neg (Nat.lt_irrefl 0)]
        exact fin _ _ _ h1 rfl f1
theorem years_m (h : Mw D m 55 (sI u 47 0 0)) (a : Int32) {k : Nat} (h1 : 1 ≤ k) (hk : k ≤ 60) : ∃ v, fX12_years a (nI k) u = some (nI (yrT D (a, m) k), v) ∧ TolM (yrL D (a, m) k) v ∧ Fq u v := by
  have b := h.b
  have h0 : Mw D m 55 (sI (sI u 47 0 0) 47 53 a) := ⟨h.1, h.2.1, h.2.2.1.fm (a := [(47, 53)]) (b := []) (c := []) (Fm.rf.sI rfl) rfl rfl, h.2.2.2.1.fm (a := [(47, 53)]) (b := []) (c := []) (Fm.rf.sI rfl) rfl rfl, h.2.2.2.2.1, h.2.2.2.2.2.fm (a := [(47, 53)]) (b := []) (c := []) (Fm.rf.sI rfl) rfl⟩
  obtain ⟨u1, e1, h1', f1⟩ := copies56 h0
  have k0 : Fr u (sI (sI u 47 0 0) 47 53 a) := (Fm.rf.sI rfl).sI rfl
  rw [fX12_years, nxs, in_1_60, if_pos ⟨(show (1 : Int32) ≤ nI k from nI_le (a := 1) h1 (by omega)), (show nI k ≤ (60 : Int32) from nI_le (b := 60) hk (by omega))⟩, oBs, if_neg (by decide), nxs, e1, oVs]
  refine lpE (fun f (z : Int32 × Int32) w => fX12_years_33 a (nI k) f z.1 z.2 w) k (fun i => (nI (yrT D (a, m) i), nI i)) (fun i w => Mw D (yrI D (a, m) i).2 56 w ∧ gI w 47 53 = (yrI D (a, m) i).1 ∧ Fr u w) (fun o => ∃ v, o = some (nI (yrT D (a, m) k), v) ∧ TolM (yrL D (a, m) k) v ∧ Fq u v) ?_ ?_ (by omega) (0, 0) rfl ⟨h1', f1.i 47 53 rfl, k0.trans (f1.mono rfl rfl rfl)⟩
  · rintro f i w hi ⟨hw, hx, hf⟩
    obtain ⟨v, e2, h2, x2, f2⟩ := year_m hw hx a (nI k) f (yrT D (a, m) i) i (nI_ge hi (by omega))
    left
    exact ⟨v, ⟨h2, x2, hf.trans f2⟩, e2⟩
  · rintro f w ⟨hw, hx, hf⟩
    obtain ⟨v, e2, t2, f2⟩ := en_m (clr_m w) (by decide) (mT (yrI D (a, m) k).2).toInt64
    have hv : Mw D (yrI D (a, m) k).2 56 v := hw.fm56 (a := [(47, 1)]) (b := []) (c := [48]) ((Fm.rf.sI rfl).trans f2) rfl rfl
    obtain ⟨v3, e3, t3, f3⟩ := en_m t2 (by simp) (nI (pcN (mB (yrI D (a, m) k).2))).toInt64
    dsimp only
    rw [fX12_years_33, if_pos (nI_le (Nat.le_refl _) (by omega)), nxs, gd_t (show inb 25 26 = true from rfl), show gA (sI w 47 1 0) 56 25 = _ from hw.gT, e2, oVs, gd_t (show inb 24 26 = true from rfl), hv.gB, bc_n (hw.2.2.2.2.1.b256 h.2.1), oBs, e3, oVs]
    exact ⟨v3, rfl, t3, ((hf.rq.sI rfl).trans f2.mq).trans f3.mq⟩
theorem st_39 : St_39 Inv := by
  intro n a1 a2 u hn hI
  obtain ⟨D, m, hW, hR⟩ := Inv_to hI
  have hc := hW.cw
  have hM0 : Mw D m 55 (sI u 47 0 0) := (hW.fr (Fm.rf.sI rfl)).mw
  by_cases h1 : 1 ≤ a2 ∧ a2 ≤ 60
  · obtain ⟨k, hk, rfl⟩ := nI_rng (n := 60) (M := 60) (v := a2) rfl ⟨by
      have q := h1.1
      rw [fa_le] at q ⊢
      have e0 : (0 : Int32).toInt = 0 := rfl
      have e1 : (1 : Int32).toInt = 1 := rfl
      omega, h1.2⟩
    have hk1 : 1 ≤ k := (nI_leI (a := 1) (by omega) (by omega)).mp h1.1
    obtain ⟨w1, e1, t1, f1⟩ := years_c hc a1 hk1 hk
    have hM := (hW.ft (f1.trans (Fm.rf.sI rfl : Ft w1 (sI w1 47 0 0)))).mw
    obtain ⟨w2, e2, t2, f2⟩ := years_m hM a1 hk1 hk
    exact ⟨_, w1, w2, e1, e2, q_told hI f1 t1 f2 t2 (by simp [yrL])⟩
  · refine ⟨-1, u, sI u 47 0 0, ?_, ?_, q_no hI⟩
    · unfold fX11_years
      by_cases q : a2 < 1
      · rw [if_pos q]
      · rw [if_neg q, if_neg (fun w => h1 ⟨n_lt.mp q, w⟩)]
    · rw [fX12_years, nxs, in_1_60, if_neg h1, oBs, if_pos rfl]
