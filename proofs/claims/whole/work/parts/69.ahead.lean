/-! ahead, first, meets -/
variable {D : DD} {m m' : MM} {e r : Nat} {u v : US}
theorem goesOn_m (h : Mw D m 56 u) {k : Nat} (hk : k ≤ 300) : ∃ v, fX12_goesOn 56 (nI k) u = some v ∧ Mw D (goI D m k) 56 v ∧ Fm [] [56] [] u v := by
  unfold fX12_goesOn
  rw [gd_t (show okA 56 20 = true from rfl)]
  refine lpE (fun f (x : Int32) w => fX12_goesOn_2 56 (nI k) f x w) k (fun i => nI i) (fun i w => Mw D (goI D m i) 56 w ∧ Fm [] [56] [] u w) (fun o => ∃ v, o = some v ∧ Mw D (goI D m k) 56 v ∧ Fm [] [56] [] u v) ?_ ?_ (by omega) 0 rfl ⟨h, Fm.rf⟩
  · rintro f i w hi ⟨hw, hf⟩
    obtain ⟨v, e1, h1, f1⟩ := hour_m hw
    left
    rw [fX12_goesOn_2, if_neg (nI_ge hi (by omega)), e1, oVs, nI_1]
    exact ⟨v, ⟨h1, hf.trans f1⟩, rfl⟩
  · rintro f w ⟨hw, hf⟩
    rw [fX12_goesOn_2, if_pos (nI_le (Nat.le_refl _) (by omega))]
    exact ⟨w, rfl, hw, hf⟩
theorem hu_z {r : Nat} (h8 : dP D ≤ 8) : nI (huN D m (some r)) = 0 ↔ huN D m (some r) = 0 := nI_z (by have := huN_256 (m := m) (o := some r) h8; omega)
def glz (D : DD) (m : MM) (r : Nat) : Int64 := if huN D m (some r) = 0 then 0 else (nI (neN D m r)).toInt64
theorem ahead_c (h : Cw D m 4 u) {r k : Nat} (hr : r < dM D) (hk : k ≤ 99) : ∃ v, fX11_ahead (nI r) (nI k) u = some (nI (seN D (goI D m k) r), v) ∧ TolC [(nI (pcN (seN D (goI D m k) r))).toInt64, glz D (goI D m k) r] v ∧ Ft u v := by
  have b := h.b
  obtain ⟨u1, e1, h1, f1⟩ := copy6 h
  unfold fX11_ahead
  rw [isR_cy h hr, oBs, if_neg (by decide), if_neg (nI_pos (by omega)), if_pos (show nI k ≤ (99 : Int32) from nI_le (b := 99) hk (by omega)), e1, oVs]
  refine lpE (fun f (x : Int32) w => fX11_ahead_36 (nI r) (nI k) f x w) k (fun i => nI i) (fun i w => Cw D (goI D m i) 6 w ∧ Fr u w) (fun o => ∃ v, o = some (nI (seN D (goI D m k) r), v) ∧ TolC [(nI (pcN (seN D (goI D m k) r))).toInt64, glz D (goI D m k) r] v ∧ Ft u v) ?_ ?_ (by omega) 0 rfl ⟨h1, f1.mono rfl rfl rfl⟩
  · rintro f i w hi ⟨hw, hf⟩
    obtain ⟨v, e1, h1, f1⟩ := walk_c hw
    left
    rw [fX11_ahead_36, if_neg (nI_ge hi (by omega)), e1, oVs, nI_1]
    exact ⟨v, ⟨h1, hf.trans (f1.mono rfl rfl rfl)⟩, rfl⟩
  · rintro f w ⟨hw, hf⟩
    obtain ⟨v1, e1, f1⟩ := seen_c hw hr
    have h1 := hw.sx f1
    have h8 := seN_256 (m := goI D m k) h.2.1 r
    obtain ⟨v2, e2, t2, f2⟩ := tl2_c (nI (pcN (seN D (goI D m k) r))).toInt64 (glz D (goI D m k) r) v1
    have kk : Ft u v2 := (hf.ft.trans f1.sft).trans f2.tcft
    rw [fX11_ahead_36, if_pos (nI_le (Nat.le_refl _) (by omega)), e1, oBs, pIn_c h1 hr, oBs]
    by_cases q : huN D (goI D m k) (some r) = 0
    · rw [if_pos ((hu_z (by omega)).mpr q), fX11_ahead_91, bc_n h8, oBs, if_pos rfl, fX11_ahead_124]
      have eg : glz D (goI D m k) r = 0 := by unfold glz; rw [if_pos q]
      rw [eg] at e2
      rw [e2, oVs]
      exact ⟨v2, rfl, t2, kk⟩
    · rw [if_neg (fun w => q ((hu_z (by omega)).mp w)), fX11_ahead_91, bc_n h8, oBs, if_neg (by decide), near_c h1 hr, oBs, fX11_ahead_124]
      have eg : glz D (goI D m k) r = (nI (neN D (goI D m k) r)).toInt64 := by unfold glz; rw [if_neg q]
      rw [eg] at e2
      rw [e2, oVs]
      exact ⟨v2, rfl, t2, kk⟩
theorem Mw.fm56 (h : Mw D m 56 u) {a : List (Nat × Nat)} {b c : List Nat} (f : Fm a b c u v) (q0 : [(47, 3), (47, 4), (47, 5), (47, 6), (47, 7), (13, 2), (14, 2), (47, 26)].all (fun x => !a.contains x) = true) (q : [49, 50, 51, 52, 53, 54, 43, 45, 59, 56].all (fun x => !b.contains x) = true) : Mw D m 56 v := by
  simp only [List.all_cons, List.all_nil, Bool.and_true, Bool.and_eq_true, Bool.not_eq_true'] at q0 q
  obtain ⟨a0, a1, a2, a3, a4, a5, a6, a7⟩ := q0
  obtain ⟨b0, b1, b2, b3, b4, b5, b6, b7, b8, b9⟩ := q
  exact ⟨h.1, h.2.1, h.2.2.1.fm f (by simp only [List.all_cons, List.all_nil, a0, a1, a2, a3, a4, Bool.not_false, Bool.and_true]) (by simp only [List.all_cons, List.all_nil, b0, b1, b2, b3, b4, b5, Bool.not_false, Bool.and_true]), h.2.2.2.1.fm f (by simp only [List.all_cons, List.all_nil, a5, a6, a7, Bool.not_false, Bool.and_true]) (by simp only [List.all_cons, List.all_nil, b6, b7, b8, Bool.not_false, Bool.and_true]), h.2.2.2.2.1, h.2.2.2.2.2.fm f b9⟩
theorem ahead_m (h : Mw D m 55 (sI u 47 0 0)) {r k : Nat} (hr : r < dM D) (hk : k ≤ 99) : ∃ v, fX12_ahead (nI r) (nI k) u = some (nI (seN D (goI D m k) r), v) ∧ TolM [(nI (pcN (seN D (goI D m k) r))).toInt64, glz D (goI D m k) r] v ∧ Fq u v := by
  have b := h.b
  obtain ⟨u1, e1, h1, f1⟩ := copies56 h
  obtain ⟨u2, e2, h2, f2⟩ := goesOn_m h1 (k := k) (by omega)
  obtain ⟨u3, e3, f3⟩ := seen_m h2 hr
  have h3 := h2.sx f3
  have h8 := seN_256 (m := goI D m k) h.2.1 r
  obtain ⟨u4, e4, t4, f4⟩ := en_m (clr_m u3) (by decide) (nI (pcN (seN D (goI D m k) r))).toInt64
  have h4 : Mw D (goI D m k) 56 u4 := h3.fm56 (a := [(47, 1)]) (b := []) (c := [48]) ((Fm.rf.sI rfl).trans f4) rfl rfl
  obtain ⟨u5, e5, t5, f5⟩ := en_m t4 (by simp) (glz D (goI D m k) r)
  have k0 : Fq u (sI u 47 0 0) := Fm.rf.sI rfl
  have kk : Fq u u5 := (((((k0.trans (f1.mono rfl rfl rfl)).trans (f2.mono rfl rfl rfl)).trans f3.sq).sI rfl).trans f4.mq).trans f5.mq
  rw [fX12_ahead, nxs, isR_my h hr, oBs, if_neg (by decide), in_0_99, if_pos ⟨nI_pos' (by omega), (show nI k ≤ (99 : Int32) from nI_le (b := 99) hk (by omega))⟩, oBs, if_neg (by decide), e1, oVs, e2, oVs, e3, oBs, nxs, bc_n h8, oBs, e4, oVs, pOf_m h4 hr, oBs]
  by_cases q : huN D (goI D m k) (some r) = 0
  · have eg : glz D (goI D m k) r = 0 := by unfold glz; rw [if_pos q]
    rw [eg] at e5
    rw [if_pos ((hu_z (by omega)).mpr q), fX12_ahead_91, e5, oVs]
    exact ⟨u5, rfl, t5, kk⟩
  · have eg : glz D (goI D m k) r = (nI (neN D (goI D m k) r)).toInt64 := by unfold glz; rw [if_neg q]
    rw [eg] at e5
    rw [if_neg (fun w => q ((hu_z (by omega)).mp w)), near_m h4 hr, oBs, fX12_ahead_91, e5, oVs]
    exact ⟨u5, rfl, t5, kk⟩
theorem st_18 : St_18 Inv := by
  intro n a1 a2 u hn hI
  obtain ⟨D, m, hW, hR⟩ := Inv_to hI
  have hc := hW.cw
  have hM0 : Mw D m 55 (sI u 47 0 0) := (hW.fr (Fm.rf.sI rfl)).mw
  by_cases h0 : isIx (dM D) a1
  · obtain ⟨r, hr, rfl⟩ := h0
    by_cases h1 : 0 ≤ a2 ∧ a2 ≤ 99
    · obtain ⟨k, hk, rfl⟩ := nI_rng (n := 99) (M := 99) rfl h1
      obtain ⟨w1, e1, t1, f1⟩ := ahead_c hc hr hk
      have hM := (hW.ft (f1.trans (Fm.rf.sI rfl : Ft w1 (sI w1 47 0 0)))).mw
      obtain ⟨w2, e2, t2, f2⟩ := ahead_m hM hr hk
      exact ⟨_, w1, w2, e1, e2, q_told hI f1 t1 f2 t2 (by simp)⟩
    · refine ⟨-1, u, sI u 47 0 0, ?_, ?_, q_no hI⟩
      · unfold fX11_ahead
        rw [isR_cy hc hr, oBs, if_neg (by decide)]
        by_cases q : a2 < 0
        · rw [if_pos q]
        · rw [if_neg q, if_neg (fun w => h1 ⟨n_lt.mp q, w⟩)]
      · rw [fX12_ahead, nxs, isR_my hM0 hr, oBs, if_neg (by decide), in_0_99, if_neg h1, oBs, if_pos rfl]
  · refine ⟨-1, u, sI u 47 0 0, ?_, ?_, q_no hI⟩
    · unfold fX11_ahead
      rw [isR_cn hc h0, oBs, if_pos rfl]
    · rw [fX12_ahead, nxs, isR_mn hM0 h0, oBs, if_pos rfl]
/-! the first of all -/
def fsN (p : Nat → Bool) : Nat → Option Nat
  | 0 => none
  | n + 1 => match fsN p n with
    | some x => some x
    | none => if p n then some n else none
theorem fs_y {p : Nat → Bool} {k : Nat} (h : fsN p k = none) (h2 : p k = true) : fsN p (k + 1) = some k := by simp only [fsN, h, h2, if_true]
theorem fs_n {p : Nat → Bool} {k : Nat} (h : fsN p k = none) (h2 : p k = false) : fsN p (k + 1) = none := by simp [fsN, h, h2]
theorem fs_s {p : Nat → Bool} {k x : Nat} (h : fsN p k = some x) : fsN p (k + 1) = some x := by simp only [fsN, h]
theorem fs_up {p : Nat → Bool} {k x : Nat} (h : fsN p k = some x) : ∀ N, k ≤ N → fsN p N = some x
  | 0, hN => by rw [show k = 0 by omega] at h; exact h
  | N + 1, hN => by
    by_cases q : k = N + 1
    · rw [← q]; exact h
    · exact fs_s (fs_up h N (by omega))
theorem fs_yN {p : Nat → Bool} {k N : Nat} (h : fsN p k = none) (h2 : p k = true) (hN : k < N) : fsN p N = some k := fs_up (fs_y h h2) N hN
theorem fs_none {p : Nat → Bool} : ∀ {N : Nat}, (∀ k, k < N → p k = false) → fsN p N = none
  | 0, _ => rfl
  | N + 1, h => fs_n (fs_none (fun k hk => h k (by omega))) (h N (by omega))
theorem fs_lt {p : Nat → Bool} : ∀ {N x : Nat}, fsN p N = some x → x < N ∧ p x = true
  | 0, x, h => by cases h
  | N + 1, x, h => by
    cases q : fsN p N with
    | some y => rw [fs_s q] at h; cases h; have := fs_lt q; exact ⟨Nat.lt_succ_of_lt this.1, this.2⟩
    | none =>
      cases q2 : p N with
      | true => rw [fs_y q q2] at h; cases h; exact ⟨Nat.lt_succ_self _, q2⟩
      | false => rw [fs_n q q2] at h; cases h
theorem first_c (h : Cw D m 4 u) {r t : Nat} (hr : r < dM D) (ht : t < dT D) : (∃ v, fsN (fun k => seB D (goI D m k) r t) 100 = none ∧ fX11_first (nI r) (nI t) u = some (-2, v) ∧ Fr u v) ∨ (∃ v k, fsN (fun k => seB D (goI D m k) r t) 100 = some k ∧ fX11_first (nI r) (nI t) u = some (nI k, v) ∧ TolC [(nI (mF (goI D m k) t)).toInt64] v ∧ Ft u v) := by
  have b := h.b
  obtain ⟨u1, e1, h1, f1⟩ := copy6 h
  unfold fX11_first
  rw [isR_cy h hr, oBs, if_neg (by decide), isT_cy h ht, oBs, if_neg (by decide), e1, oVs]
  refine lpE (fun f (x : Int32) w => fX11_first_37 (nI r) (nI t) f x w) 100 (fun i => nI i) (fun i w => fsN (fun k => seB D (goI D m k) r t) i = none ∧ Cw D (goI D m i) 6 w ∧ Fr u w) (fun o => (∃ v, fsN (fun k => seB D (goI D m k) r t) 100 = none ∧ o = some (-2, v) ∧ Fr u v) ∨ (∃ v k, fsN (fun k => seB D (goI D m k) r t) 100 = some k ∧ o = some (nI k, v) ∧ TolC [(nI (mF (goI D m k) t)).toInt64] v ∧ Ft u v)) ?_ ?_ (by omega) 0 rfl ⟨rfl, h1, f1.mono rfl rfl rfl⟩
  · rintro f i w hi ⟨hq, hw, hf⟩
    obtain ⟨v, e1, f1⟩ := sees_c hw hr ht
    have hv := hw.sx f1
    rw [fX11_first_37, if_neg (show ¬ (99 : Int32) < nI i from nI_nlt (a := 99) (by omega) (by omega)), e1, oBs]
    cases hs : seB D (goI D m i) r t with
    | false =>
      obtain ⟨v2, e2, h2, f2⟩ := walk_c hv
      left
      rw [if_pos (show bI false = 0 from rfl), e2, oVs, nI_1]
      exact ⟨v2, ⟨fs_n hq hs, h2, (hf.trans f1.fr).trans (f2.mono rfl rfl rfl)⟩, rfl⟩
    | true =>
      obtain ⟨v2, e2, t2, f2⟩ := tl1_c (nI (mF (goI D m i) t)).toInt64 v
      right; right
      rw [if_neg (show ¬ bI true = 0 by decide), gdi (show t < 8 by omega) (by omega), show gA v 28 (nI t) = _ from hv.gF ht, e2, oVs]
      exact ⟨v2, i, fs_yN (p := fun k => seB D (goI D m k) r t) hq hs hi, rfl, t2, ((hf.trans f1.fr).ft).trans f2.tcft⟩
  · rintro f w ⟨hq, hw, hf⟩
    left
    rw [fX11_first_37, if_pos (show (99 : Int32) < nI 100 by decide)]
    exact ⟨w, hq, rfl, hf⟩
theorem first_m (h : Mw D m 55 (sI u 47 0 0)) {r t : Nat} (hr : r < dM D) (ht : t < dT D) : (∃ v, fsN (fun k => seB D (goI D m k) r t) 100 = none ∧ fX12_first (nI r) (nI t) u = some (-2, v) ∧ Fr u v) ∨ (∃ v k, fsN (fun k => seB D (goI D m k) r t) 100 = some k ∧ fX12_first (nI r) (nI t) u = some (nI k, v) ∧ TolM [(nI (mF (goI D m k) t)).toInt64] v ∧ Fq u v) := by
  have b := h.b
  obtain ⟨u1, e1, h1, f1⟩ := copies56 h
  have k0 : Fr u (sI u 47 0 0) := Fm.rf.sI rfl
  rw [fX12_first, nxs, isR_my h hr, oBs, if_neg (by decide), isT_my h ht, oBs, if_neg (by decide), e1, oVs]
  refine lpE (fun f (x : Int32) w => fX12_first_29 (nI r) (nI t) f x w) 100 (fun i => nI i) (fun i w => fsN (fun k => seB D (goI D m k) r t) i = none ∧ Mw D (goI D m i) 56 w ∧ Fr u w) (fun o => (∃ v, fsN (fun k => seB D (goI D m k) r t) 100 = none ∧ o = some (-2, v) ∧ Fr u v) ∨ (∃ v k, fsN (fun k => seB D (goI D m k) r t) 100 = some k ∧ o = some (nI k, v) ∧ TolM [(nI (mF (goI D m k) t)).toInt64] v ∧ Fq u v)) ?_ ?_ (by omega) 0 rfl ⟨rfl, h1, k0.trans (f1.mono rfl rfl rfl)⟩
  · rintro f i w hi ⟨hq, hw, hf⟩
    obtain ⟨v, e1, f1⟩ := seen_m hw hr
    have hv := hw.sx f1
    have h8 := seN_256 (m := goI D m i) h.2.1 r
    rw [fX12_first_29, if_neg (show ¬ (99 : Int32) < nI i from nI_nlt (a := 99) (by omega) (by omega)), e1, oBs, has_m (by omega) (by omega), oBs, show (seN D (goI D m i) r).testBit t = seB D (goI D m i) r t by rw [seN, bN_tb, decide_eq_true ht, Bool.true_and]]
    cases hs : seB D (goI D m i) r t with
    | false =>
      obtain ⟨v2, e2, h2, f2⟩ := hour_m hv
      left
      rw [if_pos (show bI false = 0 from rfl), e2, oVs, nI_1]
      exact ⟨v2, ⟨fs_n hq hs, h2, (hf.trans f1.fr).trans (f2.mono rfl rfl rfl)⟩, rfl⟩
    | true =>
      obtain ⟨v2, e2, t2, f2⟩ := en_m (clr_m v) (by decide) (nI (mF (goI D m i) t)).toInt64
      right; right
      rw [if_neg (show ¬ bI true = 0 by decide), nxs, gdi (show t < 26 by omega) (by omega), show gA (sI v 47 1 0) 56 (nI t) = _ from hv.gF ht, e2, oVs]
      exact ⟨v2, i, fs_yN (p := fun k => seB D (goI D m k) r t) hq hs hi, rfl, t2, ((hf.trans f1.fr).rq.sI rfl).trans f2.mq⟩
  · rintro f w ⟨hq, hw, hf⟩
    left
    rw [fX12_first_29, if_pos (show (99 : Int32) < nI 100 by decide)]
    exact ⟨w, hq, rfl, hf⟩
theorem st_19 : St_19 Inv := by
  intro n a1 a2 u hn hI
  obtain ⟨D, m, hW, hR⟩ := Inv_to hI
  have hc := hW.cw
  have hM0 : Mw D m 55 (sI u 47 0 0) := (hW.fr (Fm.rf.sI rfl)).mw
  by_cases h0 : isIx (dM D) a1
  · obtain ⟨r, hr, rfl⟩ := h0
    by_cases h1 : isIx (dT D) a2
    · obtain ⟨t, ht, rfl⟩ := h1
      rcases first_c hc hr ht with ⟨w1, q1, e1, f1⟩ | ⟨w1, k, q1, e1, t1, f1⟩
      · have hM := (hW.ft (f1.ft.trans (Fm.rf.sI rfl : Ft w1 (sI w1 47 0 0)))).mw
        rcases first_m hM hr ht with ⟨w2, q2, e2, f2⟩ | ⟨w2, k2, q2, e2, t2, f2⟩
        · exact ⟨_, w1, w2, e1, e2, Inv_Fr hI (f1.trans f2)⟩
        · rw [q1] at q2; cases q2
      · have hM := (hW.ft (f1.trans (Fm.rf.sI rfl : Ft w1 (sI w1 47 0 0)))).mw
        rcases first_m hM hr ht with ⟨w2, q2, e2, f2⟩ | ⟨w2, k2, q2, e2, t2, f2⟩
        · rw [q1] at q2; cases q2
        · rw [q1] at q2; cases q2
          exact ⟨_, w1, w2, e1, e2, q_told hI f1 t1 f2 t2 (by simp)⟩
    · refine ⟨-1, u, sI u 47 0 0, ?_, ?_, q_no hI⟩
      · unfold fX11_first
        rw [isR_cy hc hr, oBs, if_neg (by decide), isT_cn hc h1, oBs, if_pos rfl]
      · rw [fX12_first, nxs, isR_my hM0 hr, oBs, if_neg (by decide), isT_mn hM0 h1, oBs, if_pos rfl]
  · refine ⟨-1, u, sI u 47 0 0, ?_, ?_, q_no hI⟩
    · unfold fX11_first
      rw [isR_cn hc h0, oBs, if_pos rfl]
    · rw [fX12_first, nxs, isR_mn hM0 h0, oBs, if_pos rfl]
