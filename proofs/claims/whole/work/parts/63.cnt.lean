/-! count, doubts, hidden -/
variable {D : DD} {m : MM} {e r : Nat} {u v : US}
def scrIm : List (Nat × Nat) := (47, 1) :: scrI
def scrJm : List Nat := 48 :: scrJ
abbrev Fq (u v : US) : Prop := Fm scrIm scrA scrJm u v
theorem Fm.qt {u v : US} (h : Fq u v) : Ft u v := h.mono rfl rfl rfl
theorem Fm.sq {u v : US} (h : Sx u v) : Fq u v := h.mono rfl rfl rfl
theorem Fm.mq {u v : US} (h : Tm u v) : Fq u v := h.mono rfl rfl rfl
theorem Fm.rq {u v : US} (h : Fr u v) : Fq u v := h.mono rfl rfl rfl
theorem q_told {n : Nat} {u u1 u2 : US} {l : List Int64} (hI : Inv n u) (f1 : Ft u u1) (t1 : TolC l u1) (f2 : Fq u1 u2) (t2 : TolM l u2) (hl : l.length ≤ 36) : Inv (n + 1) u2 := Inv_Ft hI (f1.trans f2.qt) (told_of (t1.fm f2 rfl rfl) t2 hl)
theorem q_no {n : Nat} {u : US} (hI : Inv n u) : Inv (n + 1) (sI u 47 0 0) := Inv_Fr hI (Fm.rf.sI rfl)
def hgB (m : MM) (p : Nat) : Bool := decide (¬ mO m p = none)
theorem count9_m (h : Mw D m 55 u) (a : Int32) : fX12_count_9 a FU 0 0 u = (if a = 0 then some (gI u 47 3, u) else (if a = 1 then some (gI u 47 4, u) else (if a = 2 then some (gI u 47 5, u) else (if a = 3 then some (gI u 47 6, u) else (if a = 4 then some (gI u 47 7, u) else (if a = 5 then some (gA u 55 25, u) else (if a = 6 then some (gA u 55 24, u) else (if a = 7 then some (nI (bN (hgB m) (dP D)), u) else (if a = 8 then some (gI u 47 43, u) else (if a = 9 then some (gI u 47 30, u) else (if a = 10 then some (gI u 47 1, u) else (if a = 11 then some (gI u 47 18, u) else some ((-100), u))))))))))))) := by
  have b := h.b
  refine lpS (fun f k => fX12_count_9 a f (nI (bN (hgB m) k)) (nI k) u) (dP D) _ (fun n k hk => ?_) (fun n => ?_) FU 0 (FUg (by omega)) (Nat.zero_le _)
  · show fX12_count_9 a (n + 1) (nI (bN (hgB m) k)) (nI k) u = fX12_count_9 a n (nI (bN (hgB m) (k + 1))) (nI (k + 1)) u
    rw [fX12_count_9, h.xP, if_neg (nI_ge hk (by omega)), ad16, gdi (show 16 + k < 26 by omega) (by omega), h.gO hk, nI_1]
    by_cases q : mO m k = none
    · rw [if_pos ((hV_lt0 (h.oo hk)).mpr q), or_0, bN_n (p := hgB m) (by unfold hgB; simp [q])]
    · rw [if_neg (fun w => q ((hV_lt0 (h.oo hk)).mp w)), or_b (by omega), bN_y (p := hgB m) (by unfold hgB; simp [q])]
  · show fX12_count_9 a (n + 1) (nI (bN (hgB m) (dP D))) (nI (dP D)) u = _
    rw [fX12_count_9, if_pos (show gI u 47 6 ≤ nI (dP D) by rw [h.xP]; exact nI_le (Nat.le_refl _) (by omega)), gd_t (show inb 25 26 = true from rfl), gd_t (show inb 24 26 = true from rfl)]
theorem hung_c (h : Cw D m e u) : fX8_panesHung e u = some (nI (bN (hgB m) (dP D)), u) := by
  have b := h.b
  have h8 := two8 (show dP D ≤ 8 by omega)
  unfold fX8_panesHung
  rw [gd_t h.im, h.xP, all_c (by omega), oBs, show fX8_panesIn e (-1) u = _ from panesIn_c h (o := none) (fun q hq => by cases hq), oBs, and_n]
  have : nm (2 ^ dP D - 1) (huN D m none) = bN (hgB m) (dP D) := by
    apply tb_ext; intro i
    rw [nm_tb (by omega), all_tb, huN, bN_tb, bN_tb]
    unfold huB hgB
    by_cases hi : i < dP D
    · by_cases q : mO m i = none
      · simp [hi, q]
      · simp [hi, q]
    · simp [hi]
  rw [this]
theorem st_42 : St_42 Inv := by
  intro n a u hn hI
  obtain ⟨D, m, hW, ⟨kx, hkx, tx1, tx2, tx3⟩, ⟨kp, hkp, pa1, pa2, pa3⟩, hk, ⟨kt, hkt, to1, to2, to3⟩, ⟨kw, hkw, wi1, wi2, wi3⟩⟩ := Inv_to hI
  have hc := hW.cw
  have hM : Mw D m 55 (sI u 47 0 0) := (hW.fr (Fm.rf.sI rfl)).mw
  have e0 := count9_m hM a
  have fin : ∀ x : Int32, fX11_count a u = some (x, u) → fX12_count_9 a FU 0 0 (sI u 47 0 0) = some (x, sI u 47 0 0) → ∃ (r : Int32) (u1 u2 : US), fX11_count a u = some (r, u1) ∧ fX12_count a u1 = some (r, u2) ∧ Inv (n + 1) u2 := fun x h1 h2 => ⟨x, u, sI u 47 0 0, h1, h2, q_no hI⟩
  by_cases q0 : a = 0
  · subst q0; exact fin (nI (dR D)) (by rw [fX11_count, if_pos rfl, hc.xR]) (by rw [e0, if_pos rfl, hM.xR])
  by_cases q1 : a = 1
  · subst q1; exact fin (nI (dC D)) (by rw [fX11_count, if_neg (by decide), if_pos rfl, hc.xC]) (by rw [e0, if_neg (by decide), if_pos rfl, hM.xC])
  by_cases q2 : a = 2
  · subst q2; exact fin (nI (dT D)) (by rw [fX11_count, if_neg (by decide), if_neg (by decide), if_pos rfl, hc.xT]) (by rw [e0, if_neg (by decide), if_neg (by decide), if_pos rfl, hM.xT])
  by_cases q3 : a = 3
  · subst q3; exact fin (nI (dP D)) (by rw [fX11_count, if_neg (by decide), if_neg (by decide), if_neg (by decide), if_pos rfl, hc.xP]) (by rw [e0, if_neg (by decide), if_neg (by decide), if_neg (by decide), if_pos rfl, hM.xP])
  by_cases q4 : a = 4
  · subst q4; exact fin (nI (dM D)) (by rw [fX11_count, if_neg (by decide), if_neg (by decide), if_neg (by decide), if_neg (by decide), if_pos rfl, hc.xM]) (by rw [e0, if_neg (by decide), if_neg (by decide), if_neg (by decide), if_neg (by decide), if_pos rfl, hM.xM])
  by_cases q5 : a = 5
  · subst q5; exact fin (mT m) (by rw [fX11_count, if_neg (by decide), if_neg (by decide), if_neg (by decide), if_neg (by decide), if_neg (by decide), if_pos rfl, hc.gT]) (by rw [e0, if_neg (by decide), if_neg (by decide), if_neg (by decide), if_neg (by decide), if_neg (by decide), if_pos rfl, hM.gT])
  by_cases q6 : a = 6
  · subst q6; exact fin (nI (mB m)) (by rw [fX11_count, if_neg (by decide), if_neg (by decide), if_neg (by decide), if_neg (by decide), if_neg (by decide), if_neg (by decide), if_pos rfl, hc.gB]) (by rw [e0, if_neg (by decide), if_neg (by decide), if_neg (by decide), if_neg (by decide), if_neg (by decide), if_neg (by decide), if_pos rfl, hM.gB])
  by_cases q7 : a = 7
  · subst q7; exact fin (nI (bN (hgB m) (dP D))) (by rw [fX11_count, if_neg (by decide), if_neg (by decide), if_neg (by decide), if_neg (by decide), if_neg (by decide), if_neg (by decide), if_neg (by decide), if_pos rfl, hung_c hc, oBs]) (by rw [e0, if_neg (by decide), if_neg (by decide), if_neg (by decide), if_neg (by decide), if_neg (by decide), if_neg (by decide), if_neg (by decide), if_pos rfl])
  by_cases q8 : a = 8
  · subst q8; exact fin (nI kw) (by rw [fX11_count, if_neg (by decide), if_neg (by decide), if_neg (by decide), if_neg (by decide), if_neg (by decide), if_neg (by decide), if_neg (by decide), if_neg (by decide), if_pos rfl, show gI u 11 3 = _ from wi1]) (by rw [e0, if_neg (by decide), if_neg (by decide), if_neg (by decide), if_neg (by decide), if_neg (by decide), if_neg (by decide), if_neg (by decide), if_neg (by decide), if_pos rfl, show gI (sI u 47 0 0) 47 43 = _ from wi2])
  by_cases q9 : a = 9
  · subst q9; exact fin (nI kp) (by rw [fX11_count, if_neg (by decide), if_neg (by decide), if_neg (by decide), if_neg (by decide), if_neg (by decide), if_neg (by decide), if_neg (by decide), if_neg (by decide), if_neg (by decide), if_pos rfl, show gI u 7 3 = _ from pa1]) (by rw [e0, if_neg (by decide), if_neg (by decide), if_neg (by decide), if_neg (by decide), if_neg (by decide), if_neg (by decide), if_neg (by decide), if_neg (by decide), if_neg (by decide), if_pos rfl, show gI (sI u 47 0 0) 47 30 = _ from pa2])
  by_cases q10 : a = 10
  · subst q10; exact fin (nI kt) (by rw [fX11_count, if_neg (by decide), if_neg (by decide), if_neg (by decide), if_neg (by decide), if_neg (by decide), if_neg (by decide), if_neg (by decide), if_neg (by decide), if_neg (by decide), if_neg (by decide), if_pos rfl, show gI u 8 1 = _ from to1]) (by rw [e0, if_neg (by decide), if_neg (by decide), if_neg (by decide), if_neg (by decide), if_neg (by decide), if_neg (by decide), if_neg (by decide), if_neg (by decide), if_neg (by decide), if_neg (by decide), if_pos rfl, show gI (sI u 47 0 0) 47 1 = _ from to2])
  by_cases q11 : a = 11
  · subst q11; exact fin (nI kx) (by rw [fX11_count, if_neg (by decide), if_neg (by decide), if_neg (by decide), if_neg (by decide), if_neg (by decide), if_neg (by decide), if_neg (by decide), if_neg (by decide), if_neg (by decide), if_neg (by decide), if_neg (by decide), if_pos rfl, show gI u 1 1 = _ from tx1]) (by rw [e0, if_neg (by decide), if_neg (by decide), if_neg (by decide), if_neg (by decide), if_neg (by decide), if_neg (by decide), if_neg (by decide), if_neg (by decide), if_neg (by decide), if_neg (by decide), if_neg (by decide), if_pos rfl, show gI (sI u 47 0 0) 47 18 = _ from tx2])
  exact fin (-100) (by rw [fX11_count, if_neg q0, if_neg q1, if_neg q2, if_neg q3, if_neg q4, if_neg q5, if_neg q6, if_neg q7, if_neg q8, if_neg q9, if_neg q10, if_neg q11]) (by rw [e0, if_neg q0, if_neg q1, if_neg q2, if_neg q3, if_neg q4, if_neg q5, if_neg q6, if_neg q7, if_neg q8, if_neg q9, if_neg q10, if_neg q11])
theorem st_21 : St_21 Inv := by
  intro n a1 a2 u hn hI
  obtain ⟨D, m, hW, hR⟩ := Inv_to hI
  have hc := hW.cw
  have hM : Mw D m 55 (sI u 47 0 0) := (hW.fr (Fm.rf.sI rfl)).mw
  by_cases h1 : isIx (dM D) a1
  · obtain ⟨i, hi, rfl⟩ := h1
    by_cases h2 : isIx (dM D) a2
    · obtain ⟨j, hj, rfl⟩ := h2
      by_cases h3 : nI i = nI j
      · refine ⟨-1, u, sI u 47 0 0, ?_, ?_, q_no hI⟩
        · unfold fX11_doubts
          rw [isR_cy hc hi, oBs, if_neg (by decide), isR_cy hc hj, oBs, if_neg (by decide), if_pos h3]
        · rw [fX12_doubts, nxs, isR_my hM hi, oBs, if_neg (by decide), isR_my hM hj, oBs, if_neg (by decide), if_pos h3]
      · obtain ⟨u1, e1, f1⟩ := seen_c hc hi
        obtain ⟨u2, e2, f2⟩ := seen_c (hc.sx f1) hj
        obtain ⟨u3, e3, t3, f3⟩ := tl2_c (((nI (seN D m i) ^^^ nI (seN D m j)) &&& (nI (neN D m i) &&& nI (neN D m j))) &&& nI (seN D m i)).toInt64 (nI (neN D m i) &&& nI (neN D m j)).toInt64 u2
        have k3 : Ft u u3 := (f1.trans f2).sft.trans f3.tcft
        have k4 : Fq u3 (sI u3 47 0 0) := Fm.rf.sI rfl
        have M4 := (hW.ft (k3.trans k4.qt)).mw
        obtain ⟨u5, e5, f5⟩ := seen_m M4 hi
        have k5 : Fq u3 u5 := k4.trans f5.sq
        obtain ⟨u6, e6, f6⟩ := seen_m (hW.ft (k3.trans k5.qt)).mw hj
        have k7 : Fq u3 (sI u6 47 1 0) := (k5.trans f6.sq).sI rfl
        obtain ⟨u8, e8, f8⟩ := seen_m (hW.ft (k3.trans k7.qt)).mw hi
        obtain ⟨u9, e9, t9, f9⟩ := en_m ((clr_m u6).fm f8 rfl rfl) (by decide) (((nI (seN D m i) ^^^ nI (seN D m j)) &&& (nI (neN D m i) &&& nI (neN D m j))) &&& nI (seN D m i)).toInt64
        obtain ⟨u10, e10, t10, f10⟩ := en_m t9 (by simp) (nI (neN D m i) &&& nI (neN D m j)).toInt64
        have k10 : Fq u3 u10 := ((k7.trans f8.sq).trans f9.mq).trans f10.mq
        refine ⟨(nI (seN D m i) ^^^ nI (seN D m j)) &&& (nI (neN D m i) &&& nI (neN D m j)), u3, u10, ?_, ?_, q_told hI k3 t3 k10 t10 (by simp)⟩
        · unfold fX11_doubts
          rw [isR_cy hc hi, oBs, if_neg (by decide), isR_cy hc hj, oBs, if_neg (by decide), if_neg h3, near_c hc hi, oBs, near_c hc hj, oBs, e1, oBs, e2, oBs, e3, oVs]
        · rw [fX12_doubts, nxs, isR_my M4 hi, oBs, if_neg (by decide), isR_my M4 hj, oBs, if_neg (by decide), if_neg h3, near_m M4 hi, oBs, near_m M4 hj, oBs, e5, oBs, e6, oBs, nxs, e8, oBs, e9, oVs, e10, oVs]
    · refine ⟨-1, u, sI u 47 0 0, ?_, ?_, q_no hI⟩
      · unfold fX11_doubts
        rw [isR_cy hc hi, oBs, if_neg (by decide), isR_cn hc h2, oBs, if_pos rfl]
      · rw [fX12_doubts, nxs, isR_my hM hi, oBs, if_neg (by decide), isR_mn hM h2, oBs, if_pos rfl]
  · refine ⟨-1, u, sI u 47 0 0, ?_, ?_, q_no hI⟩
    · unfold fX11_doubts
      rw [isR_cn hc h1, oBs, if_pos rfl]
    · rw [fX12_doubts, nxs, isR_mn hM h1, oBs, if_pos rfl]
def orI (f : Nat → Int32) : Nat → Int32
  | 0 => 0
  | k + 1 => orI f k ||| f k
def anI (f : Nat → Int32) (a : Int32) : Nat → Int32
  | 0 => a
  | k + 1 => anI f a k &&& f k
theorem st_23 : St_23 Inv := by
  intro n u hn hI
  obtain ⟨D, m, hW, hR⟩ := Inv_to hI
  have hc := hW.cw
  have b := hc.b
  have A : ∃ v, fX11_hidden u = some (nI (2 ^ dT D - 1) &&& (orI (fun r => nI (seN D m r)) (dM D) ^^^ (-1)), v) ∧ TolC [(bcE (nI (2 ^ dT D - 1) &&& (orI (fun r => nI (seN D m r)) (dM D) ^^^ (-1)))).toInt64, (anI (fun r => nI (seN D m r)) (nI (2 ^ dT D - 1)) (dM D)).toInt64] v ∧ Ft u v := by
    unfold fX11_hidden
    rw [allT_c hc, oBs]
    refine lpF (fun f (x : Int32 × Int32 × Int32) w => fX11_hidden_12 f x.1 x.2.1 x.2.2 w) (dM D) (fun i => (orI (fun r => nI (seN D m r)) i, anI (fun r => nI (seN D m r)) (nI (2 ^ dT D - 1)) i, nI i)) (fun w => Sx u w) (fun o => ∃ v, o = some (nI (2 ^ dT D - 1) &&& (orI (fun r => nI (seN D m r)) (dM D) ^^^ (-1)), v) ∧ TolC [(bcE (nI (2 ^ dT D - 1) &&& (orI (fun r => nI (seN D m r)) (dM D) ^^^ (-1)))).toInt64, (anI (fun r => nI (seN D m r)) (nI (2 ^ dT D - 1)) (dM D)).toInt64] v ∧ Ft u v) ?_ ?_ (by omega) (0, nI (2 ^ dT D - 1), 0) rfl Fm.rf
    · intro f k w hk hf
      have hw := hc.sx hf
      obtain ⟨v, e1, f1⟩ := seen_c hw hk
      dsimp only
      rw [fX11_hidden_12, hw.xM, if_neg (nI_ge hk (by omega)), e1, oBs, nI_1]
      exact ⟨v, hf.trans f1, rfl⟩
    · intro f w hf
      have hw := hc.sx hf
      dsimp only
      obtain ⟨v, e1, t1, f1⟩ := tl2_c (bcE (nI (2 ^ dT D - 1) &&& (orI (fun r => nI (seN D m r)) (dM D) ^^^ (-1)))).toInt64 (anI (fun r => nI (seN D m r)) (nI (2 ^ dT D - 1)) (dM D)).toInt64 w
      rw [fX11_hidden_12, hw.xM, if_pos (nI_le (Nat.le_refl _) (by omega)), allT_c hw, oBs, bc_e, oBs, e1, oVs]
      exact ⟨v, rfl, t1, hf.sft.trans f1.tcft⟩
  obtain ⟨u1, e1, t1, f1⟩ := A
  have B : ∃ v, fX12_hidden u1 = some (nI (2 ^ dT D - 1) &&& (orI (fun r => nI (seN D m r)) (dM D) ^^^ (-1)), v) ∧ TolM [(bcE (nI (2 ^ dT D - 1) &&& (orI (fun r => nI (seN D m r)) (dM D) ^^^ (-1)))).toInt64, (anI (fun r => nI (seN D m r)) (nI (2 ^ dT D - 1)) (dM D)).toInt64] v ∧ Fq u1 v := by
    have k0 : Fq u1 (sI u1 47 0 0) := Fm.rf.sI rfl
    have hM := (hW.ft (f1.trans k0.qt)).mw
    unfold fX12_hidden
    rw [nxs, hM.xT, all_m (by omega), oBs]
    refine lpF (fun f (x : Int32 × Int32 × Int32) w => fX12_hidden_17 f x.1 x.2.1 x.2.2 w) (dM D) (fun i => (orI (fun r => nI (seN D m r)) i, anI (fun r => nI (seN D m r)) (nI (2 ^ dT D - 1)) i, nI i)) (fun w => Fq u1 w) (fun o => ∃ v, o = some (nI (2 ^ dT D - 1) &&& (orI (fun r => nI (seN D m r)) (dM D) ^^^ (-1)), v) ∧ TolM [(bcE (nI (2 ^ dT D - 1) &&& (orI (fun r => nI (seN D m r)) (dM D) ^^^ (-1)))).toInt64, (anI (fun r => nI (seN D m r)) (nI (2 ^ dT D - 1)) (dM D)).toInt64] v ∧ Fq u1 v) ?_ ?_ (by omega) (0, nI (2 ^ dT D - 1), 0) rfl k0
    · intro f k w hk hf
      have hw := (hW.ft (f1.trans hf.qt)).mw
      obtain ⟨v, e1, g1⟩ := seen_m hw hk
      obtain ⟨v2, e2, g2⟩ := seen_m (hw.sx g1) hk
      dsimp only
      rw [fX12_hidden_17, hw.xM, if_neg (nI_ge hk (by omega)), e1, oBs, e2, oBs, nI_1]
      exact ⟨v2, (hf.trans g1.sq).trans g2.sq, rfl⟩
    · intro f w hf
      have hw := (hW.ft (f1.trans hf.qt)).mw
      dsimp only
      obtain ⟨v, e1, t1, g1⟩ := en_m (clr_m w) (by decide) (bcE (nI (2 ^ dT D - 1) &&& (orI (fun r => nI (seN D m r)) (dM D) ^^^ (-1)))).toInt64
      obtain ⟨v2, e2, t2, g2⟩ := en_m t1 (by simp) (anI (fun r => nI (seN D m r)) (nI (2 ^ dT D - 1)) (dM D)).toInt64
      rw [fX12_hidden_17, hw.xM, if_pos (nI_le (Nat.le_refl _) (by omega)), hw.xT, all_m (by omega), oBs, nxs, bc_e, oBs, e1, oVs, e2, oVs]
      exact ⟨v2, rfl, t2, ((hf.sI rfl).trans g1.mq).trans g2.mq⟩
  obtain ⟨u2, e2, t2, f2⟩ := B
  exact ⟨_, u1, u2, e1, e2, q_told hI f1 t1 f2 t2 (by simp)⟩
