/-! hours -/
variable {D : DD} {m m' : MM} {e r : Nat} {u v : US}
theorem Cw.fm4 (h : Cw D m 4 u) {a : List (Nat × Nat)} {b c : List Nat} (f : Fm a b c u v) (q0 : [(3, 0), (3, 1), (3, 2), (3, 3), (3, 4), (13, 2), (14, 2), (47, 26), (4, 3), (4, 4)].all (fun x => !a.contains x) = true) (q : [16, 17, 18, 19, 20, 21, 43, 45, 59, 22, 23, 24].all (fun x => !b.contains x) = true) : Cw D m 4 v := by
  simp only [List.all_cons, List.all_nil, Bool.and_true, Bool.and_eq_true, Bool.not_eq_true'] at q0 q
  obtain ⟨a0, a1, a2, a3, a4, a5, a6, a7, a8, a9⟩ := q0
  obtain ⟨b0, b1, b2, b3, b4, b5, b6, b7, b8, b9, b10, b11⟩ := q
  exact ⟨h.1, h.2.1, h.2.2.1.fm f (by simp only [List.all_cons, List.all_nil, a0, a1, a2, a3, a4, Bool.not_false, Bool.and_true]) (by simp only [List.all_cons, List.all_nil, b0, b1, b2, b3, b4, b5, Bool.not_false, Bool.and_true]), h.2.2.2.1.fm f (by simp only [List.all_cons, List.all_nil, a5, a6, a7, Bool.not_false, Bool.and_true]) (by simp only [List.all_cons, List.all_nil, b6, b7, b8, Bool.not_false, Bool.and_true]), h.2.2.2.2.1, h.2.2.2.2.2.fm f (by simp only [List.all_cons, List.all_nil, a8, a9, Bool.not_false, Bool.and_true]) (by simp only [show fpt 4 0 = 22 from rfl, show fpt 4 1 = 23 from rfl, show fpt 4 2 = 24 from rfl, List.all_cons, List.all_nil, b9, b10, b11, Bool.not_false, Bool.and_true])⟩
theorem Mw.fm55 (h : Mw D m 55 u) {a : List (Nat × Nat)} {b c : List Nat} (f : Fm a b c u v) (q0 : [(47, 3), (47, 4), (47, 5), (47, 6), (47, 7), (13, 2), (14, 2), (47, 26)].all (fun x => !a.contains x) = true) (q : [49, 50, 51, 52, 53, 54, 43, 45, 59, 55].all (fun x => !b.contains x) = true) : Mw D m 55 v := by
  simp only [List.all_cons, List.all_nil, Bool.and_true, Bool.and_eq_true, Bool.not_eq_true'] at q0 q
  obtain ⟨a0, a1, a2, a3, a4, a5, a6, a7⟩ := q0
  obtain ⟨b0, b1, b2, b3, b4, b5, b6, b7, b8, b9⟩ := q
  exact ⟨h.1, h.2.1, h.2.2.1.fm f (by simp only [List.all_cons, List.all_nil, a0, a1, a2, a3, a4, Bool.not_false, Bool.and_true]) (by simp only [List.all_cons, List.all_nil, b0, b1, b2, b3, b4, b5, Bool.not_false, Bool.and_true]), h.2.2.2.1.fm f (by simp only [List.all_cons, List.all_nil, a5, a6, a7, Bool.not_false, Bool.and_true]) (by simp only [List.all_cons, List.all_nil, b6, b7, b8, Bool.not_false, Bool.and_true]), h.2.2.2.2.1, h.2.2.2.2.2.fm f b9⟩
/-- the told row of the class as numbers -/
def ToF (n : Nat) (a : Nat → Nat) (u : US) : Prop := u.1 8 1 = nI n ∧ ∀ j, j < n → u.2.2.1 33 j = lN (a j)
def ToM (n : Nat) (a : Nat → Nat) (u : US) : Prop := u.1 47 1 = nI n ∧ ∀ j, j < n → u.2.2.1 48 j = lN (a j)
theorem enF {n : Nat} {a : Nat → Nat} (h : ToM n a u) (hn : n < 36) : ∃ v, fX12_enters (lN (a n)) u = some v ∧ ToM (n + 1) a v ∧ Tm u v := by
  refine ⟨sI (sJ u 48 (nI n) (lN (a n))) 47 1 (nI (n + 1)), ?_, ⟨rfl, fun j hj => ?_⟩, (Fm.rf.sJ rfl).sI rfl⟩
  · unfold fX12_enters
    have e : gI u 47 1 = nI n := h.1
    rw [e, gd_t (inb_nI hn (by omega))]
    show some (sI (sJ u 48 (nI n) (lN (a n))) 47 1 (gI u 47 1 + 1)) = _
    rw [e, nI_1]
  · show vp_updL (u.2.2.1 48) (nI n).toNatClampNeg (lN (a n)) j = _
    rw [nI_clamp (by omega)]
    by_cases q : j = n
    · subst q; rw [pk_uLs]
    · rw [pk_uLn q]; exact h.2 j (by omega)
theorem adF' {n : Nat} {a : Nat → Nat} (h : ToF n a u) (hn : n < 36) : ∃ v, fX2_add (lN (a n)) u = some v ∧ ToF (n + 1) a v ∧ Tc u v := by
  refine ⟨sI (sJ u 33 (nI n) (lN (a n))) 8 1 (nI (n + 1)), ?_, ⟨rfl, fun j hj => ?_⟩, (Fm.rf.sJ rfl).sI rfl⟩
  · unfold fX2_add
    have e : gI u 8 1 = nI n := h.1
    rw [e, if_neg (show ¬ (36 : Int32) ≤ nI n from nI_ge (b := 36) hn (by omega)), gd_t (inb_nI hn (by omega))]
    show some (sI (sJ u 33 (nI n) (lN (a n))) 8 1 (gI u 8 1 + 1)) = _
    rw [e, nI_1]
  · show vp_updL (u.2.2.1 33) (nI n).toNatClampNeg (lN (a n)) j = _
    rw [nI_clamp (by omega)]
    by_cases q : j = n
    · subst q; rw [pk_uLs]
    · rw [pk_uLn q]; exact h.2 j (by omega)
def mix (i : Nat) (b a : Nat → Nat) (r : Nat) : Nat := if r < i then b r else a r
theorem mix_y {i r : Nat} {b a : Nat → Nat} (h : r < i) : mix i b a r = b r := if_pos h
theorem mix_n {i r : Nat} {b a : Nat → Nat} (h : ¬ r < i) : mix i b a r = a r := if_neg h
def swN (D : DD) (m : MM) (r : Nat) : Nat → Nat
  | 0 => 0
  | k + 1 => swN D m r k ||| seN D (goI D m (k + 1)) r
theorem h77_c (h : Cw D m 4 u) {a : Nat → Nat} (ht : ToF (dM D) a u) (x : Int32) (K : Int32 → US → Option (Int32 × US)) (y : Nat) : ∃ v, fX11_hours_77 x K FU (nI y) 0 u = K (nI (y + 1)) v ∧ ToF (dM D) (fun r => a r ||| seN D m r) v ∧ Fm [] [44, 46, 61, 62] [33] u v := by
  have b := h.b
  refine lpE (fun f (z : Int32) w => fX11_hours_77 x K f (nI y) z w) (dM D) (fun i => nI i) (fun i w => ToF (dM D) (mix i (fun r => a r ||| seN D m r) a) w ∧ Fm [] [44, 46, 61, 62] [33] u w) (fun o => ∃ v, o = K (nI (y + 1)) v ∧ ToF (dM D) (fun r => a r ||| seN D m r) v ∧ Fm [] [44, 46, 61, 62] [33] u v) ?_ ?_ (by omega) 0 rfl ⟨⟨ht.1, fun j hj => by rw [mix_n (Nat.not_lt_zero j)]; exact ht.2 j hj⟩, Fm.rf⟩
  · rintro f i w hi ⟨hw, hf⟩
    have hc : Cw D m 4 w := h.fm4 hf rfl rfl
    obtain ⟨v, e1, f1⟩ := seen_c hc hi
    have h8 := seN_256 (m := m) h.2.1 i
    left
    have e8 : gI v 8 1 = nI (dM D) := (f1.i 8 1 rfl).trans hw.1
    rw [fX11_hours_77, hc.xM, if_neg (nI_ge hi (by omega)), e1, oBs]
    unfold fX2_join
    rw [if_neg (nI_pos (by omega)), e8, if_neg (nI_ge hi (by omega)), gdi (show i < 36 by omega) (by omega), gdi (show i < 36 by omega) (by omega), nxs, oVs, nI_1]
    refine ⟨sJ v 33 (nI i) (gJ v 33 (nI i) ||| (nI (seN D m i)).toInt64), ⟨⟨e8, fun j hj => ?_⟩, (hf.trans (f1.mono rfl rfl rfl)).sJ rfl⟩, rfl⟩
    show vp_updL (v.2.2.1 33) (nI i).toNatClampNeg (v.2.2.1 33 (nI i).toNatClampNeg ||| (nI (seN D m i)).toInt64) j = _
    rw [nI_clamp (by omega), f1.j 33 rfl]
    by_cases q : j = i
    · subst q
      rw [pk_uLs, hw.2 j hj, mix_n (Nat.lt_irrefl j), mix_y (by omega), nI_l (by omega), fb_orL]
    · rw [pk_uLn q, hw.2 j hj]
      by_cases q2 : j < i
      · rw [mix_y q2, mix_y (by omega)]
      · rw [mix_n q2, mix_n (by omega)]
  · rintro f w ⟨hw, hf⟩
    have hc : Cw D m 4 w := h.fm4 hf rfl rfl
    rw [fX11_hours_77, hc.xM, if_pos (nI_le (Nat.le_refl _) (by omega)), nI_1]
    exact ⟨w, rfl, ⟨hw.1, fun j hj => by rw [hw.2 j hj, mix_y hj]⟩, hf⟩
abbrev Fh (u v : US) : Prop := Fm [(4, 4), (8, 1)] [22, 23, 44, 46, 61, 62] [33] u v
theorem hours_c (h : Cw D m 4 u) {k : Nat} (hk : k ≤ 60) : ∃ v, (oV (fX2_clear u) fun u2 => fX11_hours_32 (nI k) FU 0 u2) = some (mT (goI D m k), v) ∧ Cw D (goI D m k) 4 v ∧ ToF (dM D) (fun r => swN D m r k) v ∧ Fh u v := by
  have b := h.b
  obtain ⟨e0, t0⟩ := clr_c u
  rw [e0, oVs]
  have fin : ∀ w, Cw D m 4 w → ToF (dM D) (fun r => 0) w → Fh u w → ∃ v, fX11_hours_59 (nI k) FU 0 w = some (mT (goI D m k), v) ∧ Cw D (goI D m k) 4 v ∧ ToF (dM D) (fun r => swN D m r k) v ∧ Fh u v := by
    intro w hw ht hf
    refine lpE (fun f (z : Int32) w => fX11_hours_59 (nI k) f z w) k (fun i => nI i) (fun i w => Cw D (goI D m i) 4 w ∧ ToF (dM D) (fun r => swN D m r i) w ∧ Fh u w) (fun o => ∃ v, o = some (mT (goI D m k), v) ∧ Cw D (goI D m k) 4 v ∧ ToF (dM D) (fun r => swN D m r k) v ∧ Fh u v) ?_ ?_ (by omega) 0 rfl ⟨hw, ht, hf⟩
    · rintro f i w hi ⟨hw, ht, hf⟩
      obtain ⟨v, e1, h1, f1⟩ := walk_c hw
      have t1 : ToF (dM D) (fun r => swN D m r i) v := ⟨(f1.i 8 1 rfl).trans ht.1, by rw [f1.j 33 rfl]; exact ht.2⟩
      obtain ⟨v2, e2, t2, f2⟩ := h77_c h1 t1 (nI k) (fX11_hours_59 (nI k) f) i
      left
      rw [fX11_hours_59, if_neg (nI_ge hi (by omega)), e1, oVs, e2]
      exact ⟨v2, ⟨h1.fm4 f2 rfl rfl, t2, (hf.trans (f1.mono rfl rfl rfl)).trans (f2.mono rfl rfl rfl)⟩, rfl⟩
    · rintro f w ⟨hw, ht, hf⟩
      rw [fX11_hours_59, if_pos (nI_le (Nat.le_refl _) (by omega)), hw.gT]
      exact ⟨w, rfl, hw, ht, hf⟩
  refine lpE (fun f (z : Int32) w => fX11_hours_32 (nI k) f z w) (dM D) (fun i => nI i) (fun i w => ToF i (fun _ => 0) w ∧ Tc u w) (fun o => ∃ v, o = some (mT (goI D m k), v) ∧ Cw D (goI D m k) 4 v ∧ ToF (dM D) (fun r => swN D m r k) v ∧ Fh u v) ?_ ?_ (by omega) 0 rfl ⟨⟨rfl, fun j hj => absurd hj (Nat.not_lt_zero j)⟩, Fm.rf.sI rfl⟩
  · rintro f i w hi ⟨ht, hf⟩
    obtain ⟨v, e1, t1, f1⟩ := adF' ht (show i < 36 by omega)
    have hc : Cw D m 4 w := h.fm4 hf rfl rfl
    left
    rw [fX11_hours_32, hc.xM, if_neg (nI_ge hi (by omega)), show (0 : Int64) = lN 0 from rfl, e1, oVs, nI_1]
    exact ⟨v, ⟨t1, hf.trans f1⟩, rfl⟩
  · rintro f w ⟨ht, hf⟩
    have hc : Cw D m 4 w := h.fm4 hf rfl rfl
    rw [fX11_hours_32, hc.xM, if_pos (nI_le (Nat.le_refl _) (by omega))]
    exact fin w hc ht (hf.mono rfl rfl rfl)
/-- the model's row of what was seen -/
def SwM (n : Nat) (a : Nat → Nat) (u : US) : Prop := ∀ j, j < n → u.2.1 64 j = nI (a j)
theorem h63_m (h : Mw D m 55 u) {a : Nat → Nat} (ht : SwM (dM D) a u) (x : Int32) (K : Int32 → US → Option (Int32 × US)) (y : Nat) : ∃ v, fX12_hours_63 x K FU (nI y) 0 u = K (nI (y + 1)) v ∧ SwM (dM D) (fun r => a r ||| seN D m r) v ∧ Fm [] [44, 46, 61, 62, 64] [] u v := by
  have b := h.b
  refine lpE (fun f (z : Int32) w => fX12_hours_63 x K f (nI y) z w) (dM D) (fun i => nI i) (fun i w => SwM (dM D) (mix i (fun r => a r ||| seN D m r) a) w ∧ Fm [] [44, 46, 61, 62, 64] [] u w) (fun o => ∃ v, o = K (nI (y + 1)) v ∧ SwM (dM D) (fun r => a r ||| seN D m r) v ∧ Fm [] [44, 46, 61, 62, 64] [] u v) ?_ ?_ (by omega) 0 rfl ⟨fun j hj => by rw [mix_n (Nat.not_lt_zero j)]; exact ht j hj, Fm.rf⟩
  · rintro f i w hi ⟨hw, hf⟩
    have hc : Mw D m 55 w := h.fm55 hf rfl rfl
    obtain ⟨v, e1, f1⟩ := seen_m hc hi
    left
    have e64 : gA w 64 (nI i) = nI (a i) := by
      show w.2.1 64 (nI i).toNatClampNeg = _
      rw [nI_clamp (by omega), hw i hi, mix_n (Nat.lt_irrefl i)]
    rw [fX12_hours_63, hc.xM, if_neg (nI_ge hi (by omega)), gdi (show i < 4 by omega) (by omega), e1, oBs, gdi (show i < 4 by omega) (by omega), nxs, e64, fa_or, nI_1]
    refine ⟨_, ⟨fun j hj => ?_, (hf.trans (f1.mono rfl rfl rfl)).sA rfl⟩, rfl⟩
    show upd (v.2.1 64) (nI i).toNatClampNeg (nI (a i ||| seN D m i)) j = _
    rw [nI_clamp (by omega), f1.a 64 rfl]
    by_cases q : j = i
    · subst q
      rw [pk_us, mix_y (by omega)]
    · rw [pk_un q, hw j hj]
      by_cases q2 : j < i
      · rw [mix_y q2, mix_y (by omega)]
      · rw [mix_n q2, mix_n (by omega)]
  · rintro f w ⟨hw, hf⟩
    have hc : Mw D m 55 w := h.fm55 hf rfl rfl
    rw [fX12_hours_63, hc.xM, if_pos (nI_le (Nat.le_refl _) (by omega)), nI_1]
    exact ⟨w, rfl, fun j hj => by rw [hw j hj, mix_y hj], hf⟩
abbrev Fi (u v : US) : Prop := Fm [(47, 1)] [55, 44, 46, 61, 62, 64] [48] u v
theorem swN_256 (h : DatO D) (r : Nat) : ∀ k, swN D m r k < 256
  | 0 => (show 0 < 256 by decide)
  | k + 1 => Nat.or_lt_two_pow (n := 8) (swN_256 h r k) (seN_256 h r)
theorem hours_m (h : Mw D m 55 u) {k : Nat} (hk : k ≤ 60) : ∃ v, fX12_hours_25 (nI k) FU 0 u = (oB (fX12_puts (mT (goI D m k)) v) fun r1 u1 => some (r1, u1)) ∧ Mw D (goI D m k) 55 v ∧ ToM (dM D) (fun r => swN D m r k) v ∧ Fi u v := by
  have b := h.b
  have fin2 : ∀ w, Mw D (goI D m k) 55 w → SwM (dM D) (fun r => swN D m r k) w → Fi u w → ∃ v, fX12_hours_108 (nI k) FU 0 (sI w 47 1 0) = (oB (fX12_puts (mT (goI D m k)) v) fun r1 u1 => some (r1, u1)) ∧ Mw D (goI D m k) 55 v ∧ ToM (dM D) (fun r => swN D m r k) v ∧ Fi u v := by
    intro w hw hs hf
    refine lpE (fun f (z : Int32) w => fX12_hours_108 (nI k) f z w) (dM D) (fun i => nI i) (fun i z => ToM i (fun r => swN D m r k) z ∧ Tm w z) (fun o => ∃ v, o = (oB (fX12_puts (mT (goI D m k)) v) fun r1 u1 => some (r1, u1)) ∧ Mw D (goI D m k) 55 v ∧ ToM (dM D) (fun r => swN D m r k) v ∧ Fi u v) ?_ ?_ (by omega) 0 rfl ⟨⟨rfl, fun j hj => absurd hj (Nat.not_lt_zero j)⟩, Fm.rf.sI rfl⟩
    · rintro f i z hi ⟨ht, hz⟩
      have hc : Mw D (goI D m k) 55 z := hw.fm55 hz rfl rfl
      obtain ⟨v, e1, t1, f1⟩ := enF ht (show i < 36 by omega)
      have h8 := swN_256 (m := m) h.2.1 i k
      left
      rw [fX12_hours_108, hc.xM, if_neg (nI_ge hi (by omega)), gdi (show i < 4 by omega) (by omega), show gA z 64 (nI i) = nI (swN D m i k) by (show z.2.1 64 (nI i).toNatClampNeg = _; rw [nI_clamp (by omega), hz.a 64 rfl]; exact hs i hi), nI_l (by omega), e1, oVs, nI_1]
      exact ⟨v, ⟨t1, hz.trans f1⟩, rfl⟩
    · rintro f z ⟨ht, hz⟩
      have hc : Mw D (goI D m k) 55 z := hw.fm55 hz rfl rfl
      rw [fX12_hours_108, hc.xM, if_pos (nI_le (Nat.le_refl _) (by omega)), gd_t (show inb 25 26 = true from rfl), hc.gT]
      exact ⟨z, rfl, hc, ht, hf.trans (hz.mono rfl rfl rfl)⟩
  have fin : ∀ w, Mw D m 55 w → SwM (dM D) (fun r => 0) w → Fi u w → ∃ v, fX12_hours_48 (nI k) FU 0 w = (oB (fX12_puts (mT (goI D m k)) v) fun r1 u1 => some (r1, u1)) ∧ Mw D (goI D m k) 55 v ∧ ToM (dM D) (fun r => swN D m r k) v ∧ Fi u v := by
    intro w hw ht hf
    refine lpE (fun f (z : Int32) w => fX12_hours_48 (nI k) f z w) k (fun i => nI i) (fun i w => Mw D (goI D m i) 55 w ∧ SwM (dM D) (fun r => swN D m r i) w ∧ Fi u w) (fun o => ∃ v, o = (oB (fX12_puts (mT (goI D m k)) v) fun r1 u1 => some (r1, u1)) ∧ Mw D (goI D m k) 55 v ∧ ToM (dM D) (fun r => swN D m r k) v ∧ Fi u v) ?_ ?_ (by omega) 0 rfl ⟨hw, ht, hf⟩
    · rintro f i w hi ⟨hw, ht, hf⟩
      obtain ⟨v, e1, h1, f1⟩ := hour_m hw
      have t1 : SwM (dM D) (fun r => swN D m r i) v := fun j hj => by rw [f1.a 64 rfl]; exact ht j hj
      obtain ⟨v2, e2, t2, f2⟩ := h63_m h1 t1 (nI k) (fX12_hours_48 (nI k) f) i
      left
      rw [fX12_hours_48, if_neg (nI_ge hi (by omega)), e1, oVs, e2]
      exact ⟨v2, ⟨h1.fm55 f2 rfl rfl, t2, (hf.trans (f1.mono rfl rfl rfl)).trans (f2.mono rfl rfl rfl)⟩, rfl⟩
    · rintro f w ⟨hw, ht, hf⟩
      rw [fX12_hours_48, if_pos (nI_le (Nat.le_refl _) (by omega)), nxs]
      exact fin2 w hw ht hf
  refine lpE (fun f (z : Int32) w => fX12_hours_25 (nI k) f z w) (dM D) (fun i => nI i) (fun i w => SwM i (fun _ => 0) w ∧ Fm [] [64] [] u w) (fun o => ∃ v, o = (oB (fX12_puts (mT (goI D m k)) v) fun r1 u1 => some (r1, u1)) ∧ Mw D (goI D m k) 55 v ∧ ToM (dM D) (fun r => swN D m r k) v ∧ Fi u v) ?_ ?_ (by omega) 0 rfl ⟨fun j hj => absurd hj (Nat.not_lt_zero j), Fm.rf⟩
  · rintro f i w hi ⟨ht, hf⟩
    have hc : Mw D m 55 w := h.fm55 hf rfl rfl
    left
    rw [fX12_hours_25, hc.xM, if_neg (nI_ge hi (by omega)), gdi (show i < 4 by omega) (by omega), nxs, nI_1]
    refine ⟨_, ⟨fun j hj => ?_, hf.sA rfl⟩, rfl⟩
    show upd (w.2.1 64) (nI i).toNatClampNeg 0 j = _
    rw [nI_clamp (by omega)]
    by_cases q : j = i
    · subst q; rw [pk_us]; rfl
    · rw [pk_un q]; exact ht j (by omega)
  · rintro f w ⟨ht, hf⟩
    have hc : Mw D m 55 w := h.fm55 hf rfl rfl
    rw [fX12_hours_25, hc.xM, if_pos (nI_le (Nat.le_refl _) (by omega))]
    exact fin w hc ht (hf.mono rfl rfl rfl)
theorem goI_T (D : DD) {h0 : Nat} (h : mT m = nI h0) : ∀ k, mT (goI D m k) = nI (h0 + k)
  | 0 => h
  | k + 1 => by
    show mT (goI D m k) + 1 = _
    rw [goI_T D h k, nI_1]; rfl
theorem st_15 : St_15 Inv := by
  intro n a u hn hI
  obtain ⟨D, m, hW, hR⟩ := Inv_to hI
  by_cases h : 0 ≤ a ∧ a ≤ 60
  · obtain ⟨k, hk, rfl⟩ := nI_rng (n := 60) (M := 60) rfl h
    have hd := hW.1.1
    have hmom := hW.mom
    have hR' := hR
    obtain ⟨g1, ⟨kp, hkp, pa, pb, pp⟩, ⟨g3, ⟨h0, hh0, eh⟩, hh2, hh3⟩, g6, g7⟩ := hR'
    obtain ⟨u1, e1, k1, p1, f1⟩ := push_c (u := u) (e := 4) (Or.inl rfl) hkp pa
    have c1 : Cw D m 4 u1 := hW.cw.fm4 f1 rfl rfl
    obtain ⟨u2, e2, c2, t2, f2⟩ := hours_c c1 hk
    have f12 : Fm [(7, 3), (4, 4), (8, 1)] [31, 22, 23, 44, 46, 61, 62] [33] u u2 := (f1.mono rfl rfl rfl).trans (f2.mono rfl rfl rfl)
    have k0 : Fm [(47, 0)] [] [] u2 (sI u2 47 0 0) := Fm.rf.sI rfl
    have fs : Fm [(7, 3), (4, 4), (8, 1), (47, 0)] [31, 22, 23, 44, 46, 61, 62] [33] u (sI u2 47 0 0) := (f12.mono rfl rfl rfl).sI rfl
    have M0 : Mw D m 55 (sI u2 47 0 0) := hW.mw.fm55 fs rfl rfl
    obtain ⟨w1, x1, s1, y1⟩ := putsBy_m (u := sI u2 47 0 0) hkp (show u2.1 47 30 = nI kp from (f12.i 47 30 rfl).trans pb)
    have M1 : Mw D m 55 w1 := M0.fm55 y1 rfl rfl
    obtain ⟨w2, x2, d2, tm2, y2⟩ := hours_m M1 hk
    obtain ⟨w3, x3, kk3, s3, y3⟩ := puts_m (u := w2) hkp ((y2.i 47 30 rfl).trans ((y1.i 47 30 rfl).trans ((f12.i 47 30 rfl).trans pb))) (mT (goI D m k))
    have fm : Fm [(47, 0), (47, 1), (47, 30)] [63, 55, 44, 46, 61, 62, 64] [48] u2 w3 := (((k0.mono rfl rfl rfl).trans (y1.mono rfl rfl rfl)).trans (y2.mono rfl rfl rfl)).trans (y3.mono rfl rfl rfl)
    have P1 : IsPu kp (u.2.1 31) (moC u 4) (w3.2.1 31) := by
      rw [fm.a 31 rfl, f2.a 31 rfl]; exact p1
    have P2 : IsPu kp (u.2.1 63) (u.2.1 55) (w3.2.1 63) := by
      refine pu_m (g := w2.2.1 63) (fun j i hi => ?_) s3 hkp
      rw [y2.a 63 rfl, s1 j i hi]
      show (if j = kp then u2.2.1 55 i else u2.2.1 63 (26 * j + i)) = _
      rw [f12.a 55 rfl, f12.a 63 rfl]
    refine ⟨mT (goI D m k), u2, w3, ?_, ?_, ?_⟩
    · unfold fX11_hours
      rw [if_neg (nI_pos (by omega)), if_pos (show nI k ≤ (60 : Int32) from nI_le (b := 60) hk (by omega)), e1, oVs, e2]
    · rw [fX12_hours, nxs, in_0_60, if_pos h, oBs, if_neg (by decide), x1, oVs, x2, x3, oBs]
    · refine fin_act (m' := goI D m k) hW hR ((f12.mono rfl rfl rfl).trans (fm.mono rfl rfl rfl)) c2.2.2.2.2.1 (c2.2.2.2.2.2.fm fm rfl rfl) (d2.2.2.2.2.2.fm y3 rfl) (past_push ⟨hd.2.2.2.2.1, hd.2.2.2.2.2.1⟩ hkp pp hmom.1 hmom.2 P1 P2 ((fm.i 7 3 rfl).trans ((f2.i 7 3 rfl).trans k1)) kk3) ⟨h0 + k, (by omega), ?_⟩ (hr_push hkp P1 hh2 ⟨h0, hh0, eh⟩) ⟨dM D, by have := hd.2.2.2.2.2.2; omega, (fm.i 8 1 rfl).trans t2.1, (y3.i 47 1 rfl).trans tm2.1, fun j hj => ?_⟩
      · rw [fm.i 4 4 rfl, show u2.1 4 4 = _ from c2.gT]
        exact goI_T D (hW.cw.gT.symm.trans eh) k
      · rw [fm.j 33 rfl, t2.2 j hj, y3.j 48 rfl, tm2.2 j hj]
  · refine ⟨-1, u, sI u 47 0 0, ?_, ?_, q_no hI⟩
    · unfold fX11_hours
      by_cases q : a < 0
      · rw [if_pos q]
      · rw [if_neg q, if_neg (fun w => h ⟨n_lt.mp q, w⟩)]
    · rw [fX12_hours, nxs, in_0_60, if_neg h, oBs, if_pos rfl]
