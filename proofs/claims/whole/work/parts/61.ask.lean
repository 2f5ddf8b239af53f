/-! is it one; thing, pane, room -/
variable {D : DD} {m : MM} {e r : Nat} {u v : US}
theorem nxs {ρ : Type} (v : US) (k : US → Option ρ) : nx v k = k v := rfl
def isIx (N : Nat) (v : Int32) : Prop := ∃ j : Nat, j < N ∧ v = nI j
theorem ix_no {N : Nat} (hN : N < 2 ^ 30) {v : Int32} (h : ¬ isIx N v) : v < 0 ∨ (¬ v < 0 ∧ nI N ≤ v) := by
  rcases pk_ix v (show N < 2 ^ 31 by omega) with q | q | q
  · exact Or.inl q
  · by_cases h0 : v < 0
    · exact Or.inl h0
    · exact Or.inr ⟨h0, q⟩
  · exact absurd q h
theorem in_y {j N : Nat} (hN : N < 2 ^ 30) (h : j < N) (u : US) : fX12_in (nI j).toInt64 0 (nI N - 1).toInt64 u = some (1, u) := by
  rw [show (0 : Int64) = (0 : Int32).toInt64 from rfl, in_long, if_pos]
  obtain ⟨k, rfl⟩ : ∃ k, N = k + 1 := ⟨N - 1, by omega⟩
  rw [nI_pred]
  exact ⟨nI_pos' (by omega), nI_le (by omega) (by omega)⟩
theorem in_n {v : Int32} {N : Nat} (hN : N < 2 ^ 30) (h : ¬ isIx N v) (u : US) : fX12_in v.toInt64 0 (nI N - 1).toInt64 u = some (0, u) := by
  rw [show (0 : Int64) = (0 : Int32).toInt64 from rfl, in_long, if_neg]
  rintro ⟨h1, h2⟩
  have hs := pk_sub_toInt (a := N) (b := 1) hN (by omega)
  have h3 : (nI N - nI 1).toInt = (N : Int) - 1 := hs
  rcases ix_no hN h with q | ⟨_, q⟩
  · exact absurd q (n_lt.mpr h1)
  · rw [fa_le] at h2 q
    rw [show (nI N - 1).toInt = (N : Int) - 1 from h3] at h2
    rw [nI_toInt (by omega)] at q
    omega
theorem in_0_4 (v : Int32) (u : US) : fX12_in v.toInt64 0 4 u = some (if 0 ≤ v ∧ v ≤ 4 then 1 else 0, u) := in_long v 0 4 u
theorem in_0_99 (v : Int32) (u : US) : fX12_in v.toInt64 0 99 u = some (if 0 ≤ v ∧ v ≤ 99 then 1 else 0, u) := in_long v 0 99 u
theorem in_0_60 (v : Int32) (u : US) : fX12_in v.toInt64 0 60 u = some (if 0 ≤ v ∧ v ≤ 60 then 1 else 0, u) := in_long v 0 60 u
theorem in_0_10 (v : Int32) (u : US) : fX12_in v.toInt64 0 10 u = some (if 0 ≤ v ∧ v ≤ 10 then 1 else 0, u) := in_long v 0 10 u
theorem in_0_2 (v : Int32) (u : US) : fX12_in v.toInt64 0 2 u = some (if 0 ≤ v ∧ v ≤ 2 then 1 else 0, u) := in_long v 0 2 u
theorem in_0_3 (v : Int32) (u : US) : fX12_in v.toInt64 0 3 u = some (if 0 ≤ v ∧ v ≤ 3 then 1 else 0, u) := in_long v 0 3 u
theorem in_0_9 (v : Int32) (u : US) : fX12_in v.toInt64 0 9 u = some (if 0 ≤ v ∧ v ≤ 9 then 1 else 0, u) := in_long v 0 9 u
theorem in_1_60 (v : Int32) (u : US) : fX12_in v.toInt64 1 60 u = some (if 1 ≤ v ∧ v ≤ 60 then 1 else 0, u) := in_long v 1 60 u
theorem in_0_7 (v : Int32) (u : US) : fX12_in v.toInt64 0 7 u = some (if 0 ≤ v ∧ v ≤ 7 then 1 else 0, u) := in_long v 0 7 u
theorem in_0_1 (v : Int32) (u : US) : fX12_in v.toInt64 0 1 u = some (if 0 ≤ v ∧ v ≤ 1 then 1 else 0, u) := in_long v 0 1 u
theorem isT_cy (h : Cw D m e u) {j : Nat} (hj : j < dT D) : fX8_isThing (nI j) u = some (1, u) := by
  have b := h.b; unfold fX8_isThing; rw [if_neg (nI_pos (by omega)), h.xT, if_neg (nI_ge hj (by omega))]
theorem isT_cn (h : Cw D m e u) {v : Int32} (hv : ¬ isIx (dT D) v) : fX8_isThing v u = some (0, u) := by
  have b := h.b; unfold fX8_isThing
  rcases ix_no (by omega) hv with q | ⟨q0, q⟩
  · rw [if_pos q]
  · rw [if_neg q0, h.xT, if_pos q]
theorem isP_cy (h : Cw D m e u) {j : Nat} (hj : j < dP D) : fX8_isPane (nI j) u = some (1, u) := by
  have b := h.b; unfold fX8_isPane; rw [if_neg (nI_pos (by omega)), h.xP, if_neg (nI_ge hj (by omega))]
theorem isP_cn (h : Cw D m e u) {v : Int32} (hv : ¬ isIx (dP D) v) : fX8_isPane v u = some (0, u) := by
  have b := h.b; unfold fX8_isPane
  rcases ix_no (by omega) hv with q | ⟨q0, q⟩
  · rw [if_pos q]
  · rw [if_neg q0, h.xP, if_pos q]
theorem isR_cy (h : Cw D m e u) {j : Nat} (hj : j < dM D) : fX8_isRoom (nI j) u = some (1, u) := by
  have b := h.b; unfold fX8_isRoom; rw [if_neg (nI_pos (by omega)), h.xM, if_neg (nI_ge hj (by omega))]
theorem isR_cn (h : Cw D m e u) {v : Int32} (hv : ¬ isIx (dM D) v) : fX8_isRoom v u = some (0, u) := by
  have b := h.b; unfold fX8_isRoom
  rcases ix_no (by omega) hv with q | ⟨q0, q⟩
  · rw [if_pos q]
  · rw [if_neg q0, h.xM, if_pos q]
theorem flds_c (h : Cw D m e u) : fX8_fields u = some (nI (dR D * dC D), u) := by unfold fX8_fields; rw [h.xR, h.xC, pk_mul]
theorem isF_cy (h : Cw D m e u) {j : Nat} (hj : j < dR D * dC D) : fX8_isField (nI j) u = some (1, u) := by
  have b := h.2.1.RC; unfold fX8_isField; rw [if_neg (nI_pos (by omega)), flds_c h, oBs, if_neg (nI_ge hj (by omega))]
theorem isF_cn (h : Cw D m e u) {v : Int32} (hv : ¬ isIx (dR D * dC D) v) : fX8_isField v u = some (0, u) := by
  have b := h.2.1.RC; unfold fX8_isField
  rcases ix_no (by omega) hv with q | ⟨q0, q⟩
  · rw [if_pos q]
  · rw [if_neg q0, flds_c h, oBs, if_pos q]
theorem isT_my (h : Mw D m r u) {j : Nat} (hj : j < dT D) : fX12_isThing (nI j) u = some (1, u) := by
  have b := h.b; unfold fX12_isThing; rw [h.xT, in_y (by omega) hj, oBs]; rfl
theorem isT_mn (h : Mw D m r u) {v : Int32} (hv : ¬ isIx (dT D) v) : fX12_isThing v u = some (0, u) := by
  have b := h.b; unfold fX12_isThing; rw [h.xT, in_n (by omega) hv, oBs]; rfl
theorem isP_my (h : Mw D m r u) {j : Nat} (hj : j < dP D) : fX12_isPane (nI j) u = some (1, u) := by
  have b := h.b; unfold fX12_isPane; rw [h.xP, in_y (by omega) hj, oBs]; rfl
theorem isP_mn (h : Mw D m r u) {v : Int32} (hv : ¬ isIx (dP D) v) : fX12_isPane v u = some (0, u) := by
  have b := h.b; unfold fX12_isPane; rw [h.xP, in_n (by omega) hv, oBs]; rfl
theorem isR_my (h : Mw D m r u) {j : Nat} (hj : j < dM D) : fX12_isRoom (nI j) u = some (1, u) := by
  have b := h.b; unfold fX12_isRoom; rw [h.xM, in_y (by omega) hj, oBs]; rfl
theorem isR_mn (h : Mw D m r u) {v : Int32} (hv : ¬ isIx (dM D) v) : fX12_isRoom v u = some (0, u) := by
  have b := h.b; unfold fX12_isRoom; rw [h.xM, in_n (by omega) hv, oBs]; rfl
theorem isF_my (h : Mw D m r u) {j : Nat} (hj : j < dR D * dC D) : fX12_isField (nI j) u = some (1, u) := by
  have b := h.2.1.RC; unfold fX12_isField; rw [h.xR, h.xC, pk_mul, in_y (by omega) hj, oBs]; rfl
theorem isF_mn (h : Mw D m r u) {v : Int32} (hv : ¬ isIx (dR D * dC D) v) : fX12_isField v u = some (0, u) := by
  have b := h.2.1.RC; unfold fX12_isField; rw [h.xR, h.xC, pk_mul, in_n (by omega) hv, oBs]; rfl
/-! throwing steps -/
abbrev Sy (u v : US) : Prop := Fm [(47, 0)] [44, 46, 61, 62] [] u v
theorem thr_some {F : US → Option (Option Int32 × US)} {G : US → Option (Int32 × US)} {n : Nat} {u u1 u2 : US} {x : Int32} (hI : Inv n u) (e1 : F u = some (some x, u1)) (f1 : Sx u u1) (e2 : G (sJ u1 85 0 x.toInt64) = some (x, u2)) (f2 : Sy (sJ u1 85 0 x.toInt64) u2) (h0 : gI u2 47 0 = 0) : ∃ (ro : Option Int32) (u1 : US) (b : Int32) (u2 : US) (tt : Int32) (u3 : US), F u = some (ro, u1) ∧ G (wLi (ro, u1)).2 = some (b, u2) ∧ fX12_thrown u2 = some (tt, u3) ∧ tt = (wLi (ro, u1)).1 ∧ (∀ v, ro = some v → gJ u3 85 0 = b.toInt64) ∧ Inv (n + 1) u3 :=
  ⟨some x, u1, x, u2, 0, u2, e1, e2, by show some (gI u2 47 0, u2) = _; rw [h0], rfl, fun v hv => by
    cases hv
    show u2.2.2.1 85 _ = _
    rw [f2.j 85 rfl]; rfl, Inv_Fr hI ((f1.fr.sJ (i := 85) rfl).trans (f2.mono rfl rfl rfl))⟩
theorem thr_none {F : US → Option (Option Int32 × US)} {G : US → Option (Int32 × US)} {n : Nat} {u u2 : US} {b : Int32} (hI : Inv n u) (e1 : F u = some (none, u)) (e2 : G u = some (b, u2)) (f2 : Sy u u2) (h0 : gI u2 47 0 = 1) : ∃ (ro : Option Int32) (u1 : US) (b : Int32) (u2 : US) (tt : Int32) (u3 : US), F u = some (ro, u1) ∧ G (wLi (ro, u1)).2 = some (b, u2) ∧ fX12_thrown u2 = some (tt, u3) ∧ tt = (wLi (ro, u1)).1 ∧ (∀ v, ro = some v → gJ u3 85 0 = b.toInt64) ∧ Inv (n + 1) u3 :=
  ⟨none, u, b, u2, 1, u2, e1, e2, by show some (gI u2 47 0, u2) = _; rw [h0], rfl, fun v hv => (by cases hv), Inv_Fr hI (f2.mono rfl rfl rfl)⟩
theorem one_z {q : Nat → Bool} {t n : Nat} (ht : t < n) (hn : n ≤ 8) : nI (bN (fun i => (2 ^ t).testBit i && q i) n) = 0 ↔ q t = false := by
  have hl := bN_256 (p := fun i => (2 ^ t).testBit i && q i) hn
  rw [show (0 : Int32) = nI 0 from rfl, nI_eq (by omega) (by omega)]
  constructor
  · intro h
    have := congrArg (fun x => x.testBit t) h
    simp only [bN_tb, Nat.zero_testBit, Nat.testBit_two_pow_self, ht, decide_true, Bool.true_and] at this
    exact this
  · intro h
    apply tb_ext; intro i
    rw [bN_tb, Nat.zero_testBit, Nat.testBit_two_pow]
    by_cases e : t = i
    · subst e; rw [h]; simp
    · simp [e]
def rsN (D : DD) (m : MM) (t : Nat) : Nat := bN (fun r => seB D m r t) (dM D)
theorem rSee_c (h : Cw D m e u) {t : Nat} (ht : t < dT D) : ∃ v, fX8_roomsSeeing e (nI t) u = some (nI (rsN D m t), v) ∧ Sx u v := by
  have b := h.b
  have h8 : 2 ^ t < 256 := wb_lt2 (b := 8) (by omega)
  unfold fX8_roomsSeeing
  rw [gd_t h.im]
  refine lp (fun f (x : Int32 × Int32) w => fX8_roomsSeeing_5 e (nI t) f x.1 x.2 w) (dM D) (fun i x w => x = (nI (bN (fun r => seB D m r t) i), nI i) ∧ Sx u w) (fun o => ∃ v, o = some (nI (rsN D m t), v) ∧ Sx u v) ?_ ?_ FU 0 (0, 0) u (FUg (by omega)) (Nat.zero_le _) ⟨rfl, Fm.rf⟩
  · rintro n i ⟨x, y⟩ w hi ⟨e0, hf⟩
    cases e0
    left
    have hw := h.sx hf
    obtain ⟨v, e1, f1⟩ := seenOf_c hw hi (a := 2 ^ t) h8
    show ∃ s' v, _ ∧ fX8_roomsSeeing_5 e (nI t) (n + 1) (nI (bN (fun r => seB D m r t) i)) (nI i) w = _
    rw [fX8_roomsSeeing_5, hw.xM, if_neg (nI_ge hi (by omega)), sh1 t (by omega), e1, oBs, nI_1]
    refine ⟨(_, nI (i + 1)), v, ⟨rfl, hf.trans f1⟩, ?_⟩
    cases hs : seB D m i t with
    | false => rw [if_pos ((one_z ht (by omega)).mpr hs), bN_n (p := fun r => seB D m r t) hs]
    | true => rw [if_neg (fun q => by rw [(one_z ht (by omega)).mp q] at hs; cases hs), or_b (by omega), bN_y (p := fun r => seB D m r t) hs]
  · rintro n ⟨x, y⟩ w ⟨e0, hf⟩
    cases e0
    have hw := h.sx hf
    show ∃ v, fX8_roomsSeeing_5 e (nI t) (n + 1) (nI (bN (fun r => seB D m r t) (dM D))) (nI (dM D)) w = _ ∧ _
    rw [fX8_roomsSeeing_5, hw.xM, if_pos (nI_le (Nat.le_refl _) (by omega))]
    exact ⟨w, rfl, hf⟩
theorem thing35_m (h : Mw D m 55 u) {t : Nat} (ht : t < dT D) (a2 : Int32) : ∃ v, fX12_thing_35 (nI t) a2 FU 0 0 u = (if a2 = 0 then gd (inb (nI t) 8) (some (gA v 49 (nI t), v)) else (if a2 = 1 then gd (inb (nI t) 8) (some (gA v 50 (nI t), v)) else (if a2 = 2 then gd (inb (nI t) 26) (some (gA v 55 (nI t), v)) else (if a2 = 3 then gd (inb (8 + nI t) 26) (some (gA v 55 (8 + nI t), v)) else some (nI (rsN D m t), v))))) ∧ Sx u v := by
  have b := h.b
  refine lp (fun f (x : Int32 × Int32) w => fX12_thing_35 (nI t) a2 f x.1 x.2 w) (dM D) (fun i x w => x = (nI (bN (fun r => seB D m r t) i), nI i) ∧ Sx u w) (fun o => ∃ v, o = (if a2 = 0 then gd (inb (nI t) 8) (some (gA v 49 (nI t), v)) else (if a2 = 1 then gd (inb (nI t) 8) (some (gA v 50 (nI t), v)) else (if a2 = 2 then gd (inb (nI t) 26) (some (gA v 55 (nI t), v)) else (if a2 = 3 then gd (inb (8 + nI t) 26) (some (gA v 55 (8 + nI t), v)) else some (nI (rsN D m t), v))))) ∧ Sx u v) ?_ ?_ FU 0 (0, 0) u (FUg (by omega)) (Nat.zero_le _) ⟨rfl, Fm.rf⟩
  · rintro n i ⟨x, y⟩ w hi ⟨e0, hf⟩
    cases e0
    left
    have hw := h.sx hf
    obtain ⟨v, e1, f1⟩ := seen_m hw hi
    have h8 := seN_256 (m := m) h.2.1 i
    show ∃ s' v, _ ∧ fX12_thing_35 (nI t) a2 (n + 1) (nI (bN (fun r => seB D m r t) i)) (nI i) w = _
    rw [fX12_thing_35, hw.xM, if_neg (nI_ge hi (by omega)), e1, oBs, has_m (by omega) (by omega), oBs, nI_1]
    exact ⟨(_, nI (i + 1)), v, ⟨rfl, hf.trans f1⟩, bit_m (p := fun r => seB D m r t) (by omega) (by rw [seN, bN_tb, decide_eq_true ht, Bool.true_and]) (fun a => fX12_thing_35 (nI t) a2 n a (nI (i + 1)) v)⟩
  · rintro n ⟨x, y⟩ w ⟨e0, hf⟩
    cases e0
    have hw := h.sx hf
    show ∃ v, fX12_thing_35 (nI t) a2 (n + 1) (nI (bN (fun r => seB D m r t) (dM D))) (nI (dM D)) w = _ ∧ _
    rw [fX12_thing_35, hw.xM, if_pos (nI_le (Nat.le_refl _) (by omega))]
    exact ⟨w, rfl, hf⟩
theorem w04 {v : Int32} (h : 0 ≤ v ∧ v ≤ 4) : v = 0 ∨ v = 1 ∨ v = 2 ∨ v = 3 ∨ v = 4 := by
  obtain ⟨j, hj, rfl⟩ := nI_rng (n := 4) (M := 4) rfl h
  rcases (show j = 0 ∨ j = 1 ∨ j = 2 ∨ j = 3 ∨ j = 4 by omega) with rfl | rfl | rfl | rfl | rfl
  · exact Or.inl rfl
  · exact Or.inr (Or.inl rfl)
  · exact Or.inr (Or.inr (Or.inl rfl))
  · exact Or.inr (Or.inr (Or.inr (Or.inl rfl)))
  · exact Or.inr (Or.inr (Or.inr (Or.inr rfl)))
theorem n04 {v : Int32} (h : ¬ (0 ≤ v ∧ v ≤ 4)) : ¬ v = 0 ∧ ¬ v = 1 ∧ ¬ v = 2 ∧ ¬ v = 3 ∧ ¬ v = 4 := by
  refine ⟨?_, ?_, ?_, ?_, ?_⟩ <;> (intro q; subst q; exact h (by decide))
theorem st_7 : St_7 Inv := by
  intro n a1 a2 u hn hI
  obtain ⟨D, m, hW, hR⟩ := Inv_to hI
  have hc := hW.cw
  have b := hc.b
  have frz : ∀ w : US, Sy w (sI w 47 0 0) := fun w => Fm.rf.sI rfl
  have fro : ∀ w : US, Sy w (sI (sI w 47 0 0) 47 0 1) := fun w => (Fm.rf.sI rfl).sI rfl
  by_cases hv : isIx (dT D) a1
  · obtain ⟨t, ht, rfl⟩ := hv
    by_cases h4 : 0 ≤ a2 ∧ a2 ≤ 4
    · have mod : ∀ (u1 : US) (x : Int32), Sx u u1 → ∃ v, fX12_thing (nI t) a2 (sJ u1 85 0 x.toInt64) = (if a2 = 0 then some (nI (dk D t), v) else if a2 = 1 then some (nI (ds D t), v) else if a2 = 2 then some (nI (mF m t), v) else if a2 = 3 then some (nI (mH m t), v) else some (nI (rsN D m t), v)) ∧ Sy (sJ u1 85 0 x.toInt64) v ∧ gI v 47 0 = 0 := by
        intro u1 x f1
        have hM : Mw D m 55 (sI (sJ u1 85 0 x.toInt64) 47 0 0) := (hW.fr ((f1.fr.sJ (i := 85) rfl).sI rfl)).mw
        obtain ⟨v, e1, f2⟩ := thing35_m hM ht a2
        have hv := hM.sx f2
        refine ⟨v, ?_, (frz _).trans (f2.mono rfl rfl rfl), f2.i 47 0 rfl⟩
        rw [fX12_thing, nxs, isT_my hM ht, oBs, if_neg (by decide), in_0_4, if_pos h4, oBs, if_neg (by decide), e1, hv.gk ht, hv.gs ht, hv.gF ht, ad8, hv.gH ht, gd_t (inb_nI (show t < 8 by omega) (by omega)), gd_t (inb_nI (show t < 8 by omega) (by omega)), gd_t (inb_nI (show t < 26 by omega) (by omega)), gd_t (inb_nI (show 8 + t < 26 by omega) (by omega))]
      rcases w04 h4 with rfl | rfl | rfl | rfl | rfl
      · obtain ⟨v, e2, f2, h0⟩ := mod u (nI (dk D t)) Fm.rf
        refine thr_some (F := fX11_thing (nI t) 0) (G := fX12_thing (nI t) 0) hI ?_ Fm.rf e2 f2 h0
        unfold fX11_thing
        rw [isT_cy hc ht, oBs, if_neg (by decide), if_pos rfl, gd_t (inb_nI (show t < 8 by omega) (by omega)), hc.gk ht]
      · obtain ⟨v, e2, f2, h0⟩ := mod u (nI (ds D t)) Fm.rf
        refine thr_some (F := fX11_thing (nI t) 1) (G := fX12_thing (nI t) 1) hI ?_ Fm.rf e2 f2 h0
        unfold fX11_thing
        rw [isT_cy hc ht, oBs, if_neg (by decide), if_neg (by decide), if_pos rfl, gd_t (inb_nI (show t < 8 by omega) (by omega)), hc.gs ht]
      · obtain ⟨v, e2, f2, h0⟩ := mod u (nI (mF m t)) Fm.rf
        refine thr_some (F := fX11_thing (nI t) 2) (G := fX12_thing (nI t) 2) hI ?_ Fm.rf e2 f2 h0
        unfold fX11_thing
        rw [isT_cy hc ht, oBs, if_neg (by decide), if_neg (by decide), if_neg (by decide), if_pos rfl, gd_t (inb_nI (show t < 8 by omega) (by omega)), show gA u 22 (nI t) = _ from hc.gF ht]
      · obtain ⟨v, e2, f2, h0⟩ := mod u (nI (mH m t)) Fm.rf
        refine thr_some (F := fX11_thing (nI t) 3) (G := fX12_thing (nI t) 3) hI ?_ Fm.rf e2 f2 h0
        unfold fX11_thing
        rw [isT_cy hc ht, oBs, if_neg (by decide), if_neg (by decide), if_neg (by decide), if_neg (by decide), if_pos rfl, gd_t (inb_nI (show t < 8 by omega) (by omega)), show gA u 23 (nI t) = _ from hc.gH ht]
      · obtain ⟨u1, e1, f1⟩ := rSee_c hc ht
        obtain ⟨v, e2, f2, h0⟩ := mod u1 (nI (rsN D m t)) f1
        refine thr_some (F := fX11_thing (nI t) 4) (G := fX12_thing (nI t) 4) hI ?_ f1 e2 f2 h0
        unfold fX11_thing
        rw [isT_cy hc ht, oBs, if_neg (by decide), if_neg (by decide), if_neg (by decide), if_neg (by decide), if_neg (by decide), if_pos rfl, e1, oBs]
    · obtain ⟨n0, n1, n2, n3, n4⟩ := n04 h4
      have hM : Mw D m 55 (sI u 47 0 0) := (hW.fr (Fm.rf.sI rfl)).mw
      refine thr_none (F := fX11_thing (nI t) a2) (G := fX12_thing (nI t) a2) (b := 0) (u2 := sI (sI u 47 0 0) 47 0 1) hI ?_ ?_ (fro u) rfl
      · unfold fX11_thing
        rw [isT_cy hc ht, oBs, if_neg (by decide), if_neg n0, if_neg n1, if_neg n2, if_neg n3, if_neg n4]
      · rw [fX12_thing, nxs, isT_my hM ht, oBs, if_neg (by decide), in_0_4, if_neg h4, oBs, if_pos rfl]; rfl
  · have hM : Mw D m 55 (sI u 47 0 0) := (hW.fr (Fm.rf.sI rfl)).mw
    refine thr_none (F := fX11_thing a1 a2) (G := fX12_thing a1 a2) (b := 0) (u2 := sI (sI u 47 0 0) 47 0 1) hI ?_ ?_ (fro u) rfl
    · unfold fX11_thing
      rw [isT_cn hc hv, oBs, if_pos rfl]
    · rw [fX12_thing, nxs, isT_mn hM hv, oBs, if_pos rfl]; rfl
