/-! loops whose numbers are known; pane, room, count -/
variable {D : DD} {m : MM} {e r : Nat} {u v : US}
theorem lpE {ρ σ : Type} (L : Nat → σ → US → Option ρ) (N : Nat) (S : Nat → σ) (P : Nat → US → Prop) (Q : Option ρ → Prop) (hs : ∀ n k w, k < N → P k w → (∃ v, P (k + 1) v ∧ L (n + 1) (S k) w = L n (S (k + 1)) v) ∨ Q (L (n + 1) (S k) w)) (he : ∀ n w, P N w → Q (L (n + 1) (S N) w)) (hN : N ≤ 4000) (s0 : σ) (e0 : s0 = S 0) {u : US} (hu : P 0 u) : Q (L FU s0 u) :=
  lp L N (fun k s w => s = S k ∧ P k w) Q (fun n k s w hk hq => by
    obtain ⟨e, hp⟩ := hq
    subst e
    rcases hs n k w hk hp with ⟨v, hv, e2⟩ | hq
    · exact Or.inl ⟨_, v, ⟨rfl, hv⟩, e2⟩
    · exact Or.inr hq) (fun n s w hq => by
    obtain ⟨e, hp⟩ := hq
    subst e
    exact he n w hp) FU 0 s0 u (FUg hN) (Nat.zero_le _) ⟨e0, hu⟩
theorem lpF {ρ σ : Type} (L : Nat → σ → US → Option ρ) (N : Nat) (S : Nat → σ) (P : US → Prop) (Q : Option ρ → Prop) (hs : ∀ n k w, k < N → P w → ∃ v, P v ∧ L (n + 1) (S k) w = L n (S (k + 1)) v) (he : ∀ n w, P w → Q (L (n + 1) (S N) w)) (hN : N ≤ 4000) (s0 : σ) (e0 : s0 = S 0) {u : US} (hu : P u) : Q (L FU s0 u) :=
  lpE L N S (fun _ => P) Q (fun n k w hk hp => Or.inl (hs n k w hk hp)) he hN s0 e0 hu
theorem gdi {ρ : Type} {k N : Nat} {x : Option ρ} (h : k < N) (hN : N < 2 ^ 31) : gd (inb (nI k) N) x = x := gd_t (inb_nI h hN)
theorem thN_all (D : DD) (m : MM) (p : Nat) : thN D m p (2 ^ dT D - 1) = bN (leT D m p) (dT D) := bN_cong (fun t ht => by rw [all_tb, decide_eq_true ht, Bool.true_and])
def paE (D : DD) (m : MM) (p : Nat) (a2 : Int32) (v : US) : Option (Int32 × US) := if a2 = 0 then some (nI (dl D p), v) else if a2 = 1 then some (nI (dh D p), v) else if a2 = 2 then some (hV (mO m p), v) else if a2 = 3 then some (bI ((mB m).testBit p), v) else some (nI (bN (leT D m p) (dT D)), v)
theorem pane35_m (h : Mw D m 55 u) {p : Nat} (hp : p < dP D) (a2 : Int32) : ∃ v, fX12_pane_35 (nI p) a2 FU 0 0 u = paE D m p a2 v ∧ Sx u v := by
  have b := h.b
  have hB := h.2.2.2.2.1.b256 h.2.1
  refine lpF (fun f (x : Int32 × Int32) w => fX12_pane_35 (nI p) a2 f x.1 x.2 w) (dT D) (fun i => (nI (bN (leT D m p) i), nI i)) (fun w => Sx u w) (fun o => ∃ v, o = paE D m p a2 v ∧ Sx u v) ?_ ?_ (by omega) (0, 0) rfl Fm.rf
  · intro n k w hk hf
    have hw := h.sx hf
    obtain ⟨v, e1, f1⟩ := lets_m hw hp (hw.2.1.2.1 k hk) (hw.2.1.2.2.1 k hk)
    dsimp only
    rw [fX12_pane_35, hw.xT, if_neg (nI_ge hk (by omega)), gdi (show k < 8 by omega) (by omega), gdi (show k < 8 by omega) (by omega), hw.gk hk, hw.gs hk, e1, oBs, nI_1]
    exact ⟨v, hf.trans f1, bit_m (p := leT D m p) (by omega) rfl (fun a => fX12_pane_35 (nI p) a2 n a (nI (k + 1)) v)⟩
  · intro n w hf
    have hw := h.sx hf
    dsimp only
    unfold paE
    rw [fX12_pane_35, hw.xT, if_pos (nI_le (Nat.le_refl _) (by omega)), hw.gl hp, hw.gh hp, ad16, hw.gO hp, hw.gB, has_m (by omega) (by omega), oBs, flag_m, oBs, gdi (show p < 8 by omega) (by omega), gdi (show p < 8 by omega) (by omega), gdi (show 16 + p < 26 by omega) (by omega), gd_t (show inb 24 26 = true from rfl)]
    exact ⟨w, rfl, hf⟩
theorem st_8 : St_8 Inv := by
  intro n a1 a2 u hn hI
  obtain ⟨D, m, hW, hR⟩ := Inv_to hI
  have hc := hW.cw
  have b := hc.b
  have frz : ∀ w : US, Sy w (sI w 47 0 0) := fun w => Fm.rf.sI rfl
  have fro : ∀ w : US, Sy w (sI (sI w 47 0 0) 47 0 1) := fun w => (Fm.rf.sI rfl).sI rfl
  by_cases hv : isIx (dP D) a1
  · obtain ⟨p, hp, rfl⟩ := hv
    have i8 := inb_nI (show p < 8 by omega) (show 8 < 2 ^ 31 by decide)
    by_cases h4 : 0 ≤ a2 ∧ a2 ≤ 4
    · have mod : ∀ (u1 : US) (x : Int32), Sx u u1 → ∃ v, fX12_pane (nI p) a2 (sJ u1 85 0 x.toInt64) = paE D m p a2 v ∧ Sy (sJ u1 85 0 x.toInt64) v ∧ gI v 47 0 = 0 := by
        intro u1 x f1
        have hM : Mw D m 55 (sI (sJ u1 85 0 x.toInt64) 47 0 0) := (hW.fr ((f1.fr.sJ (i := 85) rfl).sI rfl)).mw
        obtain ⟨v, e1, f2⟩ := pane35_m hM hp a2
        refine ⟨v, ?_, (frz _).trans (f2.mono rfl rfl rfl), f2.i 47 0 rfl⟩
        rw [fX12_pane, nxs, isP_my hM hp, oBs, if_neg (by decide), in_0_4, if_pos h4, oBs, if_neg (by decide), e1]
      rcases w04 h4 with rfl | rfl | rfl | rfl | rfl
      · obtain ⟨v, e2, f2, h0⟩ := mod u (nI (dl D p)) Fm.rf
        refine thr_some (F := fX11_pane (nI p) 0) (G := fX12_pane (nI p) 0) hI ?_ Fm.rf e2 f2 h0
        unfold fX11_pane
        rw [isP_cy hc hp, oBs, if_neg (by decide), if_pos rfl, gd_t i8, hc.gl hp]
      · obtain ⟨v, e2, f2, h0⟩ := mod u (nI (dh D p)) Fm.rf
        refine thr_some (F := fX11_pane (nI p) 1) (G := fX12_pane (nI p) 1) hI ?_ Fm.rf e2 f2 h0
        unfold fX11_pane
        rw [isP_cy hc hp, oBs, if_neg (by decide), if_neg (by decide), if_pos rfl, gd_t i8, hc.gh hp]
      · obtain ⟨v, e2, f2, h0⟩ := mod u (hV (mO m p)) Fm.rf
        refine thr_some (F := fX11_pane (nI p) 2) (G := fX12_pane (nI p) 2) hI ?_ Fm.rf e2 f2 h0
        unfold fX11_pane
        rw [isP_cy hc hp, oBs, if_neg (by decide), if_neg (by decide), if_neg (by decide), if_pos rfl, gd_t i8, show gA u 24 (nI p) = _ from hc.gO hp]
      · obtain ⟨v, e2, f2, h0⟩ := mod u (bI ((mB m).testBit p)) Fm.rf
        refine thr_some (F := fX11_pane (nI p) 3) (G := fX12_pane (nI p) 3) hI ?_ Fm.rf e2 f2 h0
        unfold fX11_pane
        rw [isP_cy hc hp, oBs, if_neg (by decide), if_neg (by decide), if_neg (by decide), if_neg (by decide), if_pos rfl, broken_c hc hp, oBs]
        cases (mB m).testBit p <;> rfl
      · have h8 := two8 (show dT D ≤ 8 by omega)
        obtain ⟨u1, e1, f1⟩ := through_c hc hp (a := 2 ^ dT D - 1) (by omega)
        rw [thN_all] at e1
        obtain ⟨v, e2, f2, h0⟩ := mod u1 (nI (bN (leT D m p) (dT D))) f1
        refine thr_some (F := fX11_pane (nI p) 4) (G := fX12_pane (nI p) 4) hI ?_ f1 e2 f2 h0
        unfold fX11_pane
        rw [isP_cy hc hp, oBs, if_neg (by decide), if_neg (by decide), if_neg (by decide), if_neg (by decide), if_neg (by decide), if_pos rfl, allT_c hc, oBs, e1, oBs]
    · obtain ⟨n0, n1, n2, n3, n4⟩ := n04 h4
      have hM : Mw D m 55 (sI u 47 0 0) := (hW.fr (Fm.rf.sI rfl)).mw
      refine thr_none (F := fX11_pane (nI p) a2) (G := fX12_pane (nI p) a2) (b := 0) (u2 := sI (sI u 47 0 0) 47 0 1) hI ?_ ?_ (fro u) rfl
      · unfold fX11_pane
        rw [isP_cy hc hp, oBs, if_neg (by decide), if_neg n0, if_neg n1, if_neg n2, if_neg n3, if_neg n4]
      · rw [fX12_pane, nxs, isP_my hM hp, oBs, if_neg (by decide), in_0_4, if_neg h4, oBs, if_pos rfl]; rfl
  · have hM : Mw D m 55 (sI u 47 0 0) := (hW.fr (Fm.rf.sI rfl)).mw
    refine thr_none (F := fX11_pane a1 a2) (G := fX12_pane a1 a2) (b := 0) (u2 := sI (sI u 47 0 0) 47 0 1) hI ?_ ?_ (fro u) rfl
    · unfold fX11_pane
      rw [isP_cn hc hv, oBs, if_pos rfl]
    · rw [fX12_pane, nxs, isP_mn hM hv, oBs, if_pos rfl]; rfl
def roE (D : DD) (m : MM) (r : Nat) (a2 : Int32) : Int32 := if a2 = 0 then nI (dp D r) else if a2 = 1 then nI (dg D r) else if a2 = 2 then nI (huN D m (some r)) else if a2 = 3 then nI (seN D m r) else nI (neN D m r)
theorem st_9 : St_9 Inv := by
  intro n a1 a2 u hn hI
  obtain ⟨D, m, hW, hR⟩ := Inv_to hI
  have hc := hW.cw
  have b := hc.b
  have frz : ∀ w : US, Sy w (sI w 47 0 0) := fun w => Fm.rf.sI rfl
  have fro : ∀ w : US, Sy w (sI (sI w 47 0 0) 47 0 1) := fun w => (Fm.rf.sI rfl).sI rfl
  by_cases hv : isIx (dM D) a1
  · obtain ⟨p, hp, rfl⟩ := hv
    have i4 := inb_nI (show p < 4 by omega) (show 4 < 2 ^ 31 by decide)
    by_cases h4 : 0 ≤ a2 ∧ a2 ≤ 4
    · have mod : ∀ (u1 : US) (x : Int32), Sx u u1 → ∃ v, fX12_room (nI p) a2 (sJ u1 85 0 x.toInt64) = some (roE D m p a2, v) ∧ Sy (sJ u1 85 0 x.toInt64) v ∧ gI v 47 0 = 0 := by
        intro u1 x f1
        have hM : Mw D m 55 (sI (sJ u1 85 0 x.toInt64) 47 0 0) := (hW.fr ((f1.fr.sJ (i := 85) rfl).sI rfl)).mw
        obtain ⟨v, e1, f2⟩ := seen_m hM hp
        rw [fX12_room, nxs, isR_my hM hp, oBs, if_neg (by decide), in_0_4, if_pos h4, oBs, if_neg (by decide), hM.gp hp, hM.gg hp, pOf_m hM hp, e1, near_m hM hp, gd_t i4, gd_t i4]
        rcases w04 h4 with rfl | rfl | rfl | rfl | rfl
        · exact ⟨_, rfl, frz _, rfl⟩
        · exact ⟨_, rfl, frz _, rfl⟩
        · exact ⟨_, rfl, frz _, rfl⟩
        · exact ⟨v, rfl, (frz _).trans (f2.mono rfl rfl rfl), f2.i 47 0 rfl⟩
        · exact ⟨_, rfl, frz _, rfl⟩
      rcases w04 h4 with rfl | rfl | rfl | rfl | rfl
      · obtain ⟨v, e2, f2, h0⟩ := mod u (nI (dp D p)) Fm.rf
        refine thr_some (F := fX11_room (nI p) 0) (G := fX12_room (nI p) 0) hI ?_ Fm.rf e2 f2 h0
        unfold fX11_room
        rw [isR_cy hc hp, oBs, if_neg (by decide), if_pos rfl, gd_t i4, hc.gp hp]
      · obtain ⟨v, e2, f2, h0⟩ := mod u (nI (dg D p)) Fm.rf
        refine thr_some (F := fX11_room (nI p) 1) (G := fX12_room (nI p) 1) hI ?_ Fm.rf e2 f2 h0
        unfold fX11_room
        rw [isR_cy hc hp, oBs, if_neg (by decide), if_neg (by decide), if_pos rfl, gd_t i4, hc.gg hp]
      · obtain ⟨v, e2, f2, h0⟩ := mod u (nI (huN D m (some p))) Fm.rf
        refine thr_some (F := fX11_room (nI p) 2) (G := fX12_room (nI p) 2) hI ?_ Fm.rf e2 f2 h0
        unfold fX11_room
        rw [isR_cy hc hp, oBs, if_neg (by decide), if_neg (by decide), if_neg (by decide), if_pos rfl, pIn_c hc hp, oBs]
      · obtain ⟨u1, e1, f1⟩ := seen_c hc hp
        obtain ⟨v, e2, f2, h0⟩ := mod u1 (nI (seN D m p)) f1
        refine thr_some (F := fX11_room (nI p) 3) (G := fX12_room (nI p) 3) hI ?_ f1 e2 f2 h0
        unfold fX11_room
        rw [isR_cy hc hp, oBs, if_neg (by decide), if_neg (by decide), if_neg (by decide), if_neg (by decide), if_pos rfl, e1, oBs]
      · obtain ⟨v, e2, f2, h0⟩ := mod u (nI (neN D m p)) Fm.rf
        refine thr_some (F := fX11_room (nI p) 4) (G := fX12_room (nI p) 4) hI ?_ Fm.rf e2 f2 h0
        unfold fX11_room
        rw [isR_cy hc hp, oBs, if_neg (by decide), if_neg (by decide), if_neg (by decide), if_neg (by decide), if_neg (by decide), if_pos rfl, near_c hc hp, oBs]
    · obtain ⟨n0, n1, n2, n3, n4⟩ := n04 h4
      have hM : Mw D m 55 (sI u 47 0 0) := (hW.fr (Fm.rf.sI rfl)).mw
      refine thr_none (F := fX11_room (nI p) a2) (G := fX12_room (nI p) a2) (b := 0) (u2 := sI (sI u 47 0 0) 47 0 1) hI ?_ ?_ (fro u) rfl
      · unfold fX11_room
        rw [isR_cy hc hp, oBs, if_neg (by decide), if_neg n0, if_neg n1, if_neg n2, if_neg n3, if_neg n4]
      · rw [fX12_room, nxs, isR_my hM hp, oBs, if_neg (by decide), in_0_4, if_neg h4, oBs, if_pos rfl]; rfl
  · have hM : Mw D m 55 (sI u 47 0 0) := (hW.fr (Fm.rf.sI rfl)).mw
    refine thr_none (F := fX11_room a1 a2) (G := fX12_room a1 a2) (b := 0) (u2 := sI (sI u 47 0 0) 47 0 1) hI ?_ ?_ (fro u) rfl
    · unfold fX11_room
      rw [isR_cn hc hv, oBs, if_pos rfl]
    · rw [fX12_room, nxs, isR_mn hM hv, oBs, if_pos rfl]; rfl
