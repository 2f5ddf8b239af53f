/-! law: another rule for a while -/
variable {D : DD} {m m' : MM} {e r : Nat} {u v w : US} {n mo p : Nat} {c : Nat → Nat} {ok : Bool}
theorem pc_b (p : Nat → Bool) {n : Nat} (hn : n ≤ 8) : pcN (bN p n) = fb_ct p n := by
  obtain ⟨j, hj⟩ : ∃ j, 8 = n + j := ⟨8 - n, (by omega)⟩
  unfold pcN
  rw [hj, fb_ct_split]
  have e1 : fb_ct (fun i => (bN p n).testBit i) n = fb_ct p n := fb_ct_cong (fun k hk => by rw [bN_tb, decide_eq_true hk, Bool.true_and])
  have e2 : fb_ct (fun k => (bN p n).testBit (n + k)) j = 0 := fb_ct_zero.mpr (fun k _ => by rw [bN_tb, decide_eq_false (by omega)]; rfl)
  rw [e1, e2, Nat.add_zero]
/-- pairs let through -/
def prN (D : DD) (m : MM) : Nat := fb_sm (fun p => fb_ct (leT D m p) (dT D)) (dP D)
/-- the class without the model's rule -/
def Cl (D : DD) (m : MM) (u : US) : Prop := (DatO D ∧ DatC D u ∧ MoOK D m ∧ MoC D m 4 u) ∧ ∃ (q a : Nat) (ms : List Int32), (q = 13 ∨ q = 14) ∧ gR u 0 = q ∧ a ≤ 40 ∧ gI u q 2 = nI a ∧ RuleRel (codL (u.2.1 (fpt q 0)) a) ms ∧ dr D = rlV ms
theorem Cl.sx (h : Cl D m u) (f : Sx u v) : Cl D m v := by
  obtain ⟨⟨h1, h2, h3, h4⟩, q, a, ms, hq, h5, h6, h7, h8, h9⟩ := h
  refine ⟨⟨h1, h2.fm f rfl rfl, h3, h4.fm f rfl rfl⟩, q, a, ms, hq, ?_, h6, ?_, ?_, h9⟩
  · show v.2.2.2 0 = q
    rw [f.2.2.2]; exact h5
  · rcases hq with rfl | rfl
    · exact (f.i 13 2 rfl).trans h7
    · exact (f.i 14 2 rfl).trans h7
  · rcases hq with rfl | rfl
    · rw [show v.2.1 (fpt 13 0) = u.2.1 (fpt 13 0) from f.a 43 rfl]; exact h8
    · rw [show v.2.1 (fpt 14 0) = u.2.1 (fpt 14 0) from f.a 45 rfl]; exact h8
theorem rule_l {q a : Nat} {ms : List Int32} (hq : q = 13 ∨ q = 14) (ha : a ≤ 40) (esz : gI u q 2 = nI a) (hR : RuleRel (codL (u.2.1 (fpt q 0)) a) ms) {l h k s : Nat} (hl : l < 10) (hh : h < 256) (hk : k < 8) (hs : s < 10) (t : Int32) : ∃ v, fX6_lets q (nI l) (nI h) (nI k) (nI s) t u = some (bI (rlV ms l h k s t), v) ∧ Sx u v := by
  have hr : isRul q = true := by rcases hq with rfl | rfl <;> rfl
  unfold fX6_lets
  rw [gd_t hr, esz]
  by_cases h0 : a = 0
  · subst h0
    rw [if_pos (show nI 0 = 0 from rfl), bears_c hl hh hk hs, oBs, gd_t (isB_bI _)]
    have : ms = [] := by
      rcases hR with ⟨_, e⟩ | ⟨e, _⟩
      · exact e
      · exact absurd rfl e
    rw [this]
    exact ⟨u, rfl, Fm.rf⟩
  · rw [if_neg (nI_ne0 (by omega) (by omega))]
    obtain ⟨x, e1, e2, e3, e4⟩ := rlV_of (t := t) hR (fun e => h0 (by have := codL_len (u.2.1 (fpt q 0)) a; rw [e] at this; exact this.symm)) hl hh hk hs
    rw [e3]
    exact evc_run hq ha esz e1
theorem lets_l (h : Cl D m u) {p k s : Nat} (hp : p < dP D) (hk : k < 8) (hs : s < 10) (t : Int32) : ∃ v, fX8_lets 4 t (nI p) (nI k) (nI s) u = some (bI (letB D m t p k s), v) ∧ Sx u v := by
  obtain ⟨⟨hO, hC, hm, hM⟩, q, a, ms, hq, h5, h6, h7, h8, h9⟩ := h
  have b := hO.1
  have hb := hm.b256 hO
  have hp8 : p < 8 := by have := b.2.2.2.2.2.1; omega
  unfold fX8_lets letB fX1_isBroken
  rw [gd_t (show isMom 4 = true from rfl), gd_t (show isMom 4 = true from rfl), show gI u 4 3 = nI (mB m) from hM.2.2.2.1, has_c (by omega) (by omega), oBs, gd_t (isB_bI _), oBs]
  cases hB : (mB m).testBit p with
  | true => exact ⟨u, rfl, Fm.rf⟩
  | false =>
    have hP : dP D ≤ 36 := by have := b.2.2.2.2.2.1; omega
    have hl := hO.2.2.2.1 p hp
    have hh := hO.2.2.2.2.1 p hp
    obtain ⟨v, e1, f1⟩ := rule_l hq h6 h7 h8 hl hh hk hs t
    rw [if_pos (show bI false = 0 from rfl), gdi hp8 (by omega), gdi hp8 (by omega), show gA u 18 (nI p) = nI (dl D p) from rowg hC.2.2.2.1 hp hP, show gA u 19 (nI p) = nI (dh D p) from rowg hC.2.2.2.2.1 hp hP, Bool.false_or, h5, gd_t (show isRul q = true by rcases hq with rfl | rfl <;> rfl), e1, oBs, h9]
    refine ⟨v, ?_, f1⟩
    cases rlV ms (dl D p) (dh D p) k s t <;> rfl
theorem through_l (h : Cl D m u) {p a : Nat} (hp : p < dP D) (ha : a < 256) : ∃ v, fX8_through 4 (nI p) (nI a) u = some (nI (thN D m p a), v) ∧ Sx u v := by
  have b := h.1.1.1
  have hT8 : dT D ≤ 8 := b.2.2.2.2.1
  unfold fX8_through
  rw [gd_t (show isMom 4 = true from rfl)]
  refine lp (fun f (s : Int32 × Int32) w => fX8_through_6 4 (nI p) (nI a) f s.1 s.2 w) (dT D) (fun k s w => s = (nI (bN (fun t => a.testBit t && leT D m p t) k), nI k) ∧ Sx u w) (fun o => ∃ v, o = some (nI (thN D m p a), v) ∧ Sx u v) ?_ ?_ FU 0 (0, 0) u (FUg (by omega)) (Nat.zero_le _) ⟨rfl, Fm.rf⟩
  · rintro n k ⟨x, y⟩ w hk ⟨e0, hf⟩
    cases e0
    left
    have hw := h.sx hf
    obtain ⟨⟨hO, hC, hm, hM⟩, -⟩ := id hw
    show ∃ s' v, _ ∧ fX8_through_6 4 (nI p) (nI a) (n + 1) (nI (bN (fun t => a.testBit t && leT D m p t) k)) (nI k) w = _
    rw [fX8_through_6, show gI w 3 2 = nI (dT D) from hC.1.2.2.1, if_neg (nI_ge hk (by omega)), has_c (by omega) (by omega), oBs]
    by_cases ht : a.testBit k = true
    · obtain ⟨v, e1, f1⟩ := lets_l hw hp (hO.2.1 k hk) (hO.2.2.1 k hk) (mT m)
      rw [ht, if_neg (show ¬ bI true = 0 by decide), gdi (show k < 8 by omega) (by omega), gdi (show k < 8 by omega) (by omega), show gI w 4 4 = mT m from hM.2.2.2.2, show gA w 16 (nI k) = nI (dk D k) from rowg hC.2.1 hk (by omega), show gA w 17 (nI k) = nI (ds D k) from rowg hC.2.2.1 hk (by omega), e1, oBs, nI_1]
      exact ⟨(_, nI (k + 1)), v, ⟨rfl, hf.trans f1⟩, bit_c (p := fun t => a.testBit t && leT D m p t) (by omega) (by rw [ht]; rfl) (fun x => fX8_through_6 4 (nI p) (nI a) n x (nI (k + 1)) v)⟩
    · rw [ts_nt ht, if_pos (show bI false = 0 from rfl), nI_1]
      exact ⟨(_, nI (k + 1)), w, ⟨rfl, hf⟩, by rw [bN_n (by rw [ts_nt ht]; rfl)]⟩
  · rintro n ⟨x, y⟩ w ⟨e0, hf⟩
    cases e0
    have hw := h.sx hf
    show ∃ v, fX8_through_6 4 (nI p) (nI a) (n + 1) (nI (bN (fun t => a.testBit t && leT D m p t) (dT D))) (nI (dT D)) w = _ ∧ _
    rw [fX8_through_6, show gI w 3 2 = nI (dT D) from hw.1.2.1.1.2.2.1, if_pos (nI_le (Nat.le_refl _) (by omega))]
    exact ⟨w, rfl, hf⟩
theorem pr_le (hO : DatO D) (k : Nat) (hk : k ≤ dP D) : fb_sm (fun p => fb_ct (leT D m p) (dT D)) k ≤ 64 := by
  have b := hO.1
  have h1 : fb_sm (fun p => fb_ct (leT D m p) (dT D)) k ≤ k * 8 := fb_sm_bound (fun p _ => Nat.le_trans (fb_ct_le _ _) b.2.2.2.2.1)
  have := b.2.2.2.2.2.1
  omega
theorem pairs_l (h : Cl D m u) : ∃ v, fX8_pairsThrough 4 u = some (nI (prN D m), v) ∧ Sx u v := by
  have b := h.1.1.1
  have hT8 : dT D ≤ 8 := b.2.2.2.2.1
  have hP8 : dP D ≤ 8 := b.2.2.2.2.2.1
  unfold fX8_pairsThrough
  rw [gd_t (show isMom 4 = true from rfl)]
  refine lpE (fun f (z : Int32 × Int32) w => fX8_pairsThrough_4 4 f z.1 z.2 w) (dP D) (fun i => (nI (fb_sm (fun p => fb_ct (leT D m p) (dT D)) i), nI i)) (fun i w => Sx u w) (fun o => ∃ v, o = some (nI (prN D m), v) ∧ Sx u v) ?_ ?_ (by omega) (0, 0) rfl Fm.rf
  · rintro f i w hi hf
    left
    have hw := h.sx hf
    have h8 := two8 hT8
    dsimp only
    obtain ⟨v, e1, f1⟩ := through_l (a := 2 ^ dT D - 1) hw hi (by omega)
    have eb : thN D m i (2 ^ dT D - 1) < 256 := Nat.lt_of_lt_of_le (bN_lt _ _) (pow8 hT8)
    refine ⟨v, hf.trans f1, ?_⟩
    rw [fX8_pairsThrough_4, show gI w 3 3 = nI (dP D) from hw.1.2.1.1.2.2.2.1, if_neg (nI_ge hi (by omega)), show fX8_allThings w = some (nI (2 ^ dT D - 1), w) by unfold fX8_allThings; rw [show gI w 3 2 = nI (dT D) from hw.1.2.1.1.2.2.1, all_c hT8]; rfl, oBs, e1, oBs, bc_n eb, oBs, nI_add, nI_1, thN_all, pc_b _ hT8]; rfl
  · rintro f w hf
    have hw := h.sx hf
    dsimp only
    rw [fX8_pairsThrough_4, show gI w 3 3 = nI (dP D) from hw.1.2.1.1.2.2.2.1, if_pos (nI_le (Nat.le_refl _) (by omega))]
    exact ⟨w, rfl, hf⟩
/-- the model without the class's rule -/
def Ml (D : DD) (m : MM) (u : US) : Prop := (DatO D ∧ DatM D u ∧ MoOK D m ∧ MoM D m 55 u) ∧ ∃ (cs : List Int32) (k : Nat), k ≤ 80 ∧ gI u 47 26 = nI k ∧ RuleRel cs (codL (u.2.1 59) k) ∧ dr D = rlV (codL (u.2.1 59) k)
theorem Ml.sx (h : Ml D m u) (f : Sx u v) : Ml D m v := by
  obtain ⟨⟨h1, h2, h3, h4⟩, cs, k, h5, h6, h7, h8⟩ := h
  refine ⟨⟨h1, h2.fm f rfl rfl, h3, h4.fm f rfl⟩, cs, k, h5, (f.i 47 26 rfl).trans h6, ?_, ?_⟩
  · rw [f.a 59 rfl]; exact h7
  · rw [f.a 59 rfl]; exact h8
theorem lets_k (h : Ml D m u) {p k s : Nat} (hp : p < dP D) (hk : k < 8) (hs : s < 10) : ∃ v, fX12_lets 55 (nI p) (nI k) (nI s) u = some (bI (letB D m (mT m) p k s), v) ∧ Sx u v := by
  obtain ⟨⟨hO, hD, hm, hM⟩, cs, k', hk', ek, hR, hd⟩ := h
  have b := hO.1
  have hp8 : dP D ≤ 8 := b.2.2.2.2.2.1
  have hB := hm.b256 hO
  have hl := hO.2.2.2.1 p hp
  have hh := hO.2.2.2.2.1 p hp
  have key : ∀ W : US, Fm [] [62] [] u W → Askd (nI (dl D p)) (nI (dh D p)) (nI k) (nI s) (mT m) (W.2.1 62) → ∃ v, (oB (fX12_has (nI (mB m)) (nI p) W) fun r10 u10 => (if r10 = 0 then oB (fX12_ruled u10) fun r11 u11 => (if r11 = 0 then some (0, u11) else some (1, u11)) else some (1, u10))) = some (bI (letB D m (mT m) p k s), v) ∧ Sx u v := by
    intro W hf hA
    rw [has_m (by omega) (by omega), oBs]
    unfold letB
    cases hb : (mB m).testBit p with
    | true => exact ⟨W, rfl, hf.mono rfl rfl rfl⟩
    | false =>
      rw [if_pos (show bI false = 0 from rfl), Bool.false_or]
      have hz : gI W 47 26 = nI k' := (hf.i 47 26 rfl).trans ek
      rw [hd]
      by_cases h0 : k' = 0
      · subst h0
        rw [ruled0 hA hz, oBs, nm3 hh hk]
        refine ⟨W, ?_, hf.mono rfl rfl rfl⟩
        show _ = some (bI (!(dh D p).testBit k && decide (s ≤ dl D p)), W)
        cases hq : (dh D p).testBit k with
        | true => rfl
        | false =>
          by_cases hq2 : s ≤ dl D p
          · rw [if_pos (show bI false = 0 from rfl), if_neg (nI_nlt hq2 (by omega)), decide_eq_true hq2]; rfl
          · rw [if_pos (show bI false = 0 from rfl), if_pos (nI_lt (by omega) (by omega)), decide_eq_false hq2]; rfl
      · have hne : cs ≠ [] := by
          intro e0
          rcases hR with ⟨_, e⟩ | ⟨e, _⟩
          · exact h0 (by have := codL_len (u.2.1 59) k'; rw [e] at this; exact this.symm)
          · exact e e0
        obtain ⟨x, e1, e2, e3, e4⟩ := rlV_of (t := mT m) hR hne hl hh hk hs
        rw [e3]
        have e59 : W.2.1 59 = u.2.1 59 := hf.a 59 rfl
        obtain ⟨v, e5, f5⟩ := evm_run hk' (by omega) hz hA (by rw [e59]; exact e2)
        unfold fX12_ruled
        rw [e5, oBs]
        refine ⟨v, ?_, (hf.mono rfl rfl rfl).trans (f5.mono rfl rfl rfl)⟩
        by_cases hx0 : x = 0
        · rw [if_pos hx0, hx0]; rfl
        · rw [if_neg hx0, show (x != 0) = true by simp [hx0]]; rfl
  have o1 : ∀ (w : US) (x y z : Int32), gA (sA w 62 x y) 51 z = gA w 51 z := fun _ _ _ _ => rfl
  have o2 : ∀ (w : US) (x y z : Int32), gA (sA w 62 x y) 52 z = gA w 52 z := fun _ _ _ _ => rfl
  have o3 : ∀ (w : US) (x y z : Int32), gA (sA w 62 x y) 55 z = gA w 55 z := fun _ _ _ _ => rfl
  have i8 : inb (nI p) 8 = true := inb_nI (by omega) (by omega)
  have hm1 := has_m (a := dh D p) (k := k) (by omega) (by omega)
  have g1 : gA u 51 (nI p) = nI (dl D p) := rowg hD.2.2.2.1 hp (by omega)
  have g2 : gA u 52 (nI p) = nI (dh D p) := rowg hD.2.2.2.2.1 hp (by omega)
  have g3 : gA u 55 24 = nI (mB m) := hM.2.2.2.1
  have g4 : gA u 55 25 = mT m := hM.2.2.2.2
  unfold fX12_lets
  simp only [nx, gd_t (show okA 55 20 = true from rfl), gd_t i8, gd_t (show inb 0 6 = true from rfl), gd_t (show inb 1 6 = true from rfl), gd_t (show inb 2 6 = true from rfl), gd_t (show inb 3 6 = true from rfl), gd_t (show inb 4 6 = true from rfl), gd_t (show inb 5 6 = true from rfl), show ln 55 = 26 from rfl, gd_t (show inb 24 26 = true from rfl), gd_t (show inb 25 26 = true from rfl), o1, o2, o3, g1, g2, g3, g4, hm1, oBs, flag_m, bc_e, show ¬ (24 : Int32) = 0 by decide, if_false]
  refine key _ ((((((Fm.rf.sA rfl).sA rfl).sA rfl).sA rfl).sA rfl).sA rfl) ?_
  intro j hj
  rcases (show j = 0 ∨ j = 1 ∨ j = 2 ∨ j = 3 ∨ j = 4 ∨ j = 5 by omega) with rfl | rfl | rfl | rfl | rfl | rfl
  · rfl
  · rfl
  · rfl
  · rw [nm3 hh hk]; rfl
  · rfl
  · rfl
theorem bI_nat (b : Bool) : bI b = nI (if b then 1 else 0) := by cases b <;> rfl
theorem pairs_k (h : Ml D m u) : ∃ v, fX12_pairsLet u = some (nI (prN D m), v) ∧ Sx u v := by
  have b := h.1.1.1
  have hT8 : dT D ≤ 8 := b.2.2.2.2.1
  have hP8 : dP D ≤ 8 := b.2.2.2.2.2.1
  unfold fX12_pairsLet
  refine lpE (fun f (z : Int32 × Int32) w => fX12_pairsLet_4 f z.1 z.2 w) (dP D) (fun i => (nI (fb_sm (fun p => fb_ct (leT D m p) (dT D)) i), nI i)) (fun i w => Sx u w) (fun o => ∃ v, o = some (nI (prN D m), v) ∧ Sx u v) ?_ ?_ (by omega) (0, 0) rfl Fm.rf
  · rintro f i w hi hf
    left
    have hw := h.sx hf
    dsimp only
    rw [fX12_pairsLet_4, show gI w 47 6 = nI (dP D) from hw.1.2.1.1.2.2.2.1, if_neg (nI_ge hi (by omega))]
    refine lpE (fun g (z : Int32 × Int32) x => fX12_pairsLet_14 (fX12_pairsLet_4 f) g z.1 (nI i) z.2 x) (dT D) (fun j => (nI (fb_sm (fun p => fb_ct (leT D m p) (dT D)) i + fb_ct (leT D m i) j), nI j)) (fun j x => Sx u x) (fun o => ∃ v, Sx u v ∧ o = fX12_pairsLet_4 f (nI (fb_sm (fun p => fb_ct (leT D m p) (dT D)) (i + 1))) (nI (i + 1)) v) ?_ ?_ (by omega) (nI (fb_sm (fun p => fb_ct (leT D m p) (dT D)) i), 0) rfl hf
    · rintro g j x hj hx
      left
      have hX := h.sx hx
      obtain ⟨v, e1, f1⟩ := lets_k hX hi (hX.1.1.2.1 j hj) (hX.1.1.2.2.1 j hj)
      refine ⟨v, hx.trans f1, ?_⟩
      dsimp only
      rw [fX12_pairsLet_14, show gI x 47 5 = nI (dT D) from hX.1.2.1.1.2.2.1, if_neg (nI_ge hj (by omega)), gdi (show j < 8 by omega) (by omega), gdi (show j < 8 by omega) (by omega), show gA x 49 (nI j) = nI (dk D j) from rowg hX.1.2.1.2.1 hj (by omega), show gA x 50 (nI j) = nI (ds D j) from rowg hX.1.2.1.2.2.1 hj (by omega), e1, oBs, flag_m, oBs, bI_nat, nI_add, nI_1, fb_ct_succ, Nat.add_assoc]; rfl
    · rintro g x hx
      have hX := h.sx hx
      dsimp only
      rw [fX12_pairsLet_14, show gI x 47 5 = nI (dT D) from hX.1.2.1.1.2.2.1, if_pos (nI_le (Nat.le_refl _) (by omega)), nI_1]
      exact ⟨x, hx, rfl⟩
  · rintro f w hf
    have hw := h.sx hf
    dsimp only
    rw [fX12_pairsLet_4, show gI w 47 6 = nI (dP D) from hw.1.2.1.1.2.2.2.1, if_pos (nI_le (Nat.le_refl _) (by omega))]
    exact ⟨w, rfl, hf⟩
def setR (D : DD) (f : Nat → Nat → Nat → Nat → Int32 → Bool) : DD := (D.1, D.2.1, D.2.2.1, D.2.2.2.1, D.2.2.2.2.1, D.2.2.2.2.2.1, D.2.2.2.2.2.2.1, f)
theorem irul_keep {q0 v0 : Nat} {y z : US} (hRu : IRul (u.2.2.2 0) (u.2.2.2 1) (u.1 13 2) (u.1 14 2) (u.1 47 26) (u.2.1 43) (u.2.1 45) (u.2.1 59)) (hq0 : u.2.2.2 0 = q0) (hv0 : u.2.2.2 1 = v0) (hne : (q0 = 13 ∧ v0 = 14) ∨ (q0 = 14 ∧ v0 = 13)) (fs : FS v0 u y) (cn : Cn v0 y) (z0 : z.2.2.2 0 = q0) (z1 : z.2.2.2 1 = v0) (e13 : z.1 13 2 = y.1 13 2) (e14 : z.1 14 2 = y.1 14 2) (e26 : z.1 47 26 = u.1 47 26) (e43 : z.2.1 43 = y.2.1 43) (e45 : z.2.1 45 = y.2.1 45) (e59 : ∀ k, k ≤ 80 → u.1 47 26 = nI k → ∀ j, j < k → z.2.1 59 j = u.2.1 59 j) : IRul (z.2.2.2 0) (z.2.2.2 1) (z.1 13 2) (z.1 14 2) (z.1 47 26) (z.2.1 43) (z.2.1 45) (z.2.1 59) := by
  obtain ⟨a, b, k', ha, hb, hk', ea, eb, ek, hr⟩ := hRu
  obtain ⟨x, x1, x2⟩ := cn
  rw [z0, z1, e13, e14, e26, e43, e45]
  have ec : codL (z.2.1 59) k' = codL (u.2.1 59) k' := codL_eq (e59 k' hk' ek)
  rw [hq0, hv0] at hr
  rcases hne with ⟨rfl, rfl⟩ | ⟨rfl, rfl⟩
  · refine ⟨a, x, k', ha, x1, hk', ((fs.2 rfl).i 13 2 rfl).trans ea, x2, ek, Or.inl ⟨rfl, rfl, ?_⟩⟩
    rw [(fs.2 rfl).a 43 rfl, ec]
    rcases hr with ⟨_, _, h⟩ | ⟨h, _⟩
    · exact h
    · exact absurd h (by decide)
  · refine ⟨x, b, k', x1, hb, hk', x2, ((fs.1 rfl).i 14 2 rfl).trans eb, ek, Or.inr ⟨rfl, rfl, ?_⟩⟩
    rw [(fs.1 rfl).a 45 rfl, ec]
    rcases hr with ⟨h, _⟩ | ⟨_, _, h⟩
    · exact absurd h (by decide)
    · exact h
theorem law_neg : ∀ p : Nat, p < 81 → ((-1 : Int32) - nI p + 1) - 10000 = -10000 - nI p := by decide +kernel
/-- the model lays the new rule, counts, and lays the old one again -/
theorem law35_m {D' : DD} {x y k : Nat} {L : List Int32} (hk : k ≤ 80) (h26 : gI u 47 26 = nI k) (hM : (DatO D ∧ DatM D u ∧ MoOK D m ∧ MoM D m 55 u)) (eD : D' = setR D (rlV L)) (hL : Md L u) (hR : ∃ cs, RuleRel cs L) : ∃ v, fX12_law_35 FU (nI y) (nI k) 0 u = some (nI (prN D' m) - nI y, v) ∧ TolM [(nI (prN D' m)).toInt64, (nI y).toInt64] v ∧ gI v 47 26 = nI k ∧ (∀ j, j < k → v.2.1 59 j = u.2.1 59 j) ∧ Fm [(47, 1), (47, 26)] [59, 81, 44, 46, 61, 62] [48] u v := by
  refine lpE (fun f (z : Int32) w => fX12_law_35 f (nI y) (nI k) z w) k (fun i => nI i) (fun i w => (∀ j, j < i → w.2.1 81 j = u.2.1 59 j) ∧ Fm [] [81] [] u w) (fun o => ∃ v, o = some (nI (prN D' m) - nI y, v) ∧ TolM [(nI (prN D' m)).toInt64, (nI y).toInt64] v ∧ gI v 47 26 = nI k ∧ (∀ j, j < k → v.2.1 59 j = u.2.1 59 j) ∧ Fm [(47, 1), (47, 26)] [59, 81, 44, 46, 61, 62] [48] u v) ?_ ?_ (by omega) 0 rfl ⟨fun j hj => absurd hj (Nat.not_lt_zero j), Fm.rf⟩
  · rintro f i w hi ⟨h1, h2⟩
    left
    rw [fX12_law_35, show gI w 47 26 = nI k from (h2.i 47 26 rfl).trans h26, if_neg (nI_ge hi (by omega)), gdi (show i < 80 by omega) (by omega), gdi (show i < 80 by omega) (by omega), nxs, nI_1]
    refine ⟨sA w 81 (nI i) (gA w 59 (nI i)), ⟨fun j hj => ?_, h2.sA rfl⟩, rfl⟩
    show upd (w.2.1 81) (nI i).toNatClampNeg (w.2.1 59 (nI i).toNatClampNeg) j = _
    rw [nI_clamp (by omega)]
    by_cases q : j = i
    · subst q; rw [pk_us, h2.a 59 rfl]
    · rw [pk_un q]; exact h1 j (by omega)
  · rintro f w ⟨h1, h2⟩
    obtain ⟨m1, m2, m3⟩ := hL
    obtain ⟨w1, e1, g1, l1, f1⟩ := layc_m (u := w) (v1 := 60) (Or.inl rfl) m2
    have l1' : codL (w1.2.1 59) L.length = L := by rw [codL_eq l1, h2.a 60 rfl]; exact m3
    have hM1 : Ml D' m w1 := by
      obtain ⟨a1, a2, a3, a4⟩ := hM
      obtain ⟨cs, hcs⟩ := hR
      subst eD
      refine ⟨⟨a1, ?_, a3, ?_⟩, cs, L.length, m2, g1, by rw [l1']; exact hcs, by rw [l1']; rfl⟩
      · exact ((show DatM (setR D (rlV L)) u from a2).fm h2 rfl rfl).fm f1 rfl rfl
      · exact ((show MoM (setR D (rlV L)) m 55 u from a4).fm h2 rfl).fm f1 rfl
    obtain ⟨w2, e2, f2⟩ := pairs_k hM1
    obtain ⟨w3, e3, g3, l3, f3⟩ := layc_m (u := w2) (v1 := 81) (Or.inr rfl) hk
    obtain ⟨w4, e4, t4, f4⟩ := en_m (clr_m w3) (by decide) (nI (prN D' m)).toInt64
    obtain ⟨w5, e5, t5, f5⟩ := en_m t4 (by simp) (nI y).toInt64
    rw [fX12_law_35, show gI w 47 26 = nI k from (h2.i 47 26 rfl).trans h26, if_pos (nI_le (Nat.le_refl _) (by omega)), show gI w 47 27 = nI L.length from (h2.i 47 27 rfl).trans m1, e1, oVs, e2, oBs, e3, oVs, nxs, e4, oVs, e5, oVs]
    have f45 : Fm [(47, 1)] [] [48] w3 w5 := ((Fm.rf.sI rfl).trans f4).trans f5
    refine ⟨w5, rfl, t5, (f45.i 47 26 rfl).trans g3, fun j hj => ?_, ((((h2.mono rfl rfl rfl).trans (f1.mono rfl rfl rfl)).trans (f2.mono rfl rfl rfl)).trans (f3.mono rfl rfl rfl)).trans (f45.mono rfl rfl rfl)⟩
    rw [f45.a 59 rfl, l3 j hj, f2.a 81 rfl, f1.a 81 rfl]
    exact h1 j hj
theorem st_37 : St_37 Inv := by
  intro kk u hkk hI
  obtain ⟨n, c, hn, hc, hxc, hxm⟩ := tx_of hI
  have ht : Tok n 40 c := ⟨hn, by decide, hc⟩
  have hRu := Inv_irul hI
  have hTo := Inv_told hI
  obtain ⟨q0, v0, hq0, hv0, hV, hne⟩ : ∃ q0 v0, u.2.2.2 0 = q0 ∧ u.2.2.2 1 = v0 ∧ IsV v0 ∧ ((q0 = 13 ∧ v0 = 14) ∨ (q0 = 14 ∧ v0 = 13)) := by
    obtain ⟨a, b, k', _, _, _, _, _, _, ⟨r0, r1, _⟩ | ⟨r0, r1, _⟩⟩ := hRu
    · exact ⟨13, 14, r0, r1, Or.inr rfl, Or.inl ⟨rfl, rfl⟩⟩
    · exact ⟨14, 13, r0, r1, Or.inl rfl, Or.inr ⟨rfl, rfl⟩⟩
  obtain ⟨y, e1, y1, cn, cd, fs⟩ := spare_c ht hV hv0 hxc
  have fy : Fm [(1, 1), (2, 1), (2, 2), (2, 3), (13, 2), (14, 2)] [43, 45] [] u y := by
    rcases hV with q | q
    · exact (fs.1 q).mono rfl rfl rfl
    · exact (fs.2 q).mono rfl rfl rfl
  have R1 : gR y 1 = v0 := by show y.2.2.2 1 = _; rw [fy.2.2.2, hv0]
  have R0 : gR y 0 = q0 := by show y.2.2.2 0 = _; rw [fy.2.2.2, hq0]
  cases hK : spK n c with
  | false =>
    rw [hK, if_neg (by decide)] at e1
    have xz : (sI y 47 0 0).1 47 18 = nI n ∧ RowN n ((sI y 47 0 0).2.1 57) c := by
      refine ⟨?_, ?_⟩
      · show y.1 47 18 = _
        rw [fy.i 47 18 rfl]; exact hxm.1
      · show RowN n (y.2.1 57) c
        rw [fy.a 57 rfl]; exact hxm.2
    obtain ⟨w1, e2, g18, md, hle, f2⟩ := rules_m ht xz
    have hK' := hK
    unfold spK at hK'
    rw [show anV n (spR n c).1 (spR n c).2.1 0 = -1 - nI (spR n c).1 by unfold anV; rw [hK']; rfl] at e2
    have ec : fX11_law u = some (-10000 - nI (spR n c).1, y) := by
      unfold fX11_law
      rw [e1, oBs, if_neg (n31 (by omega))]
    have em : fX12_law y = some (-10000 - nI (spR n c).1, w1) := by
      unfold fX12_law
      rw [nxs, e2, oBs, if_neg (neg_nle _ hle), law_neg _ (by omega)]
    refine ⟨_, y, w1, ec, em, ?_⟩
    have fz : Fm [(47, 0), (47, 18), (47, 19), (47, 20), (47, 21), (47, 27)] [60] [] y w1 := (Fm.rf.sI rfl).trans (f2.mono rfl rfl rfl)
    have fa : FmR rulI rulA scrJt u w1 := FmR.trans (fy.mono rfl rfl rfl).fmr (fz.mono rfl rfl rfl).fmr
    refine Inv_rul hI fa ((fz.i 1 1 rfl).trans y1) g18 ?_ (irul_keep hRu hq0 hv0 hne fs cn (by rw [fz.2.2.2]; exact R0) (by rw [fz.2.2.2]; exact R1) (fz.i 13 2 rfl) (fz.i 14 2 rfl) ((fz.i 47 26 rfl).trans (fy.i 47 26 rfl)) (fz.a 43 rfl) (fz.a 45 rfl) (fun _ _ _ j _ => by rw [fz.a 59 rfl, fy.a 59 rfl]))
    rw [fz.i 8 1 rfl, fz.i 47 1 rfl, fz.j 33 rfl, fz.j 48 rfl, fy.i 8 1 rfl, fy.i 47 1 rfl, fy.j 33 rfl, fy.j 48 rfl]; exact hTo
  | true =>
    rw [hK, if_pos rfl] at e1
    obtain ⟨D, m, hW, -⟩ := Inv_to hI
    obtain ⟨hO, hDC, hDM, hRl, hMo, hMC, hMM⟩ := id hW
    obtain ⟨c1, c2, c3⟩ := cd hK
    have hrel := sp_rel hK
    -- the class counts with the old rule
    obtain ⟨k, hk, ek, hdr⟩ := hRl.2
    have hold : ∃ a, a ≤ 40 ∧ gI y q0 2 = nI a ∧ RuleRel (codL (y.2.1 (fpt q0 0)) a) (codL (u.2.1 59) k) := by
      obtain ⟨a, b, k', ha, hb, hk', ea, eb, ek', hr⟩ := hRu
      have : k' = k := (nI_eq (by omega) (by omega)).mp (ek'.symm.trans ek)
      subst this
      rw [hq0, hv0] at hr
      rcases hne with ⟨rfl, rfl⟩ | ⟨rfl, rfl⟩
      · refine ⟨a, ha, ((fs.2 rfl).i 13 2 rfl).trans ea, ?_⟩
        rw [show y.2.1 (fpt 13 0) = u.2.1 43 from (fs.2 rfl).a 43 rfl]
        rcases hr with ⟨_, _, h⟩ | ⟨h, _⟩
        · exact h
        · exact absurd h (by decide)
      · refine ⟨b, hb, ((fs.1 rfl).i 14 2 rfl).trans eb, ?_⟩
        rw [show y.2.1 (fpt 14 0) = u.2.1 45 from (fs.1 rfl).a 45 rfl]
        rcases hr with ⟨h, _⟩ | ⟨_, _, h⟩
        · exact absurd h (by decide)
        · exact h
    obtain ⟨a, ha, ea, hoR⟩ := hold
    have hq : q0 = 13 ∨ q0 = 14 := by rcases hne with ⟨h, _⟩ | ⟨h, _⟩; exact Or.inl h; exact Or.inr h
    have hCy : Cl D m y := ⟨⟨hO, hDC.fm fy rfl rfl, hMo, hMC.fm fy rfl rfl⟩, q0, a, _, hq, R0, ha, ea, hoR, hdr⟩
    obtain ⟨y2, e2, f2⟩ := pairs_l hCy
    obtain ⟨y3, hy3⟩ : ∃ y3, y3 = sR (sR y2 0 (gR y2 1)) 1 (gR y2 0) := ⟨_, rfl⟩
    have g21 : gR y2 1 = v0 := by show y2.2.2.2 1 = _; rw [f2.2.2.2]; exact R1
    have g20 : gR y2 0 = q0 := by show y2.2.2.2 0 = _; rw [f2.2.2.2]; exact R0
    have p3 : y3.1 = y2.1 ∧ y3.2.1 = y2.2.1 ∧ y3.2.2.1 = y2.2.2.1 ∧ y3.2.2.2 0 = v0 ∧ y3.2.2.2 1 = q0 := by rw [hy3, g21, g20]; exact ⟨rfl, rfl, rfl, rfl, rfl⟩
    obtain ⟨D', eD'⟩ : ∃ D', D' = setR D (rlV (spR n c).2.2.2) := ⟨_, rfl⟩
    have hC3 : Cl D' m y3 := by
      subst eD'
      refine ⟨⟨hO, ?_, hMo, ?_⟩, v0, _, (spR n c).2.2.2, hV, p3.2.2.2.1, c2, ?_, ?_, rfl⟩
      · have := (hCy.sx f2).1.2.1
        unfold DatC at *
        rw [p3.1, p3.2.1]; exact this
      · have := (hCy.sx f2).1.2.2.2
        unfold MoC at *
        rw [p3.1, p3.2.1]; exact this
      · show y3.1 v0 2 = _
        rw [p3.1]
        rcases hV with rfl | rfl
        · exact (f2.i 13 2 rfl).trans c1
        · exact (f2.i 14 2 rfl).trans c1
      · rw [p3.2.1, show codL (y2.2.1 (fpt v0 0)) (spR n c).2.2.1.length = (spR n c).2.2.1 from by
          rcases hV with rfl | rfl
          · rw [show y2.2.1 (fpt 13 0) = y.2.1 (fpt 13 0) from f2.a 43 rfl]; exact c3
          · rw [show y2.2.1 (fpt 14 0) = y.2.1 (fpt 14 0) from f2.a 45 rfl]; exact c3]
        exact hrel
    obtain ⟨y4, e4, f4⟩ := pairs_l hC3
    obtain ⟨y5, hy5⟩ : ∃ y5, y5 = sR (sR y4 0 (gR y4 1)) 1 (gR y4 0) := ⟨_, rfl⟩
    have g41 : gR y4 1 = q0 := by show y4.2.2.2 1 = _; rw [f4.2.2.2]; exact p3.2.2.2.2
    have g40 : gR y4 0 = v0 := by show y4.2.2.2 0 = _; rw [f4.2.2.2]; exact p3.2.2.2.1
    have p5 : y5.1 = y4.1 ∧ y5.2.1 = y4.2.1 ∧ y5.2.2.1 = y4.2.2.1 ∧ y5.2.2.2 0 = q0 ∧ y5.2.2.2 1 = v0 := by rw [hy5, g41, g40]; exact ⟨rfl, rfl, rfl, rfl, rfl⟩
    obtain ⟨y6, e6, t6, f6⟩ := tl2_c (nI (prN D' m)).toInt64 (nI (prN D m)).toInt64 y5
    have ec : fX11_law u = some (nI (prN D' m) - nI (prN D m), y6) := by
      unfold fX11_law fX11_swapRules
      rw [e1, oBs, if_pos rfl, e2, oBs, nxs, nxs, oVs, ← hy3, e4, oBs, nxs, nxs, oVs, ← hy5, e6, oVs]
    have f25 : FmR [] [44, 46, 61, 62] [] y y5 := by
      rw [hy5]
      have h1 : FmR [] [44, 46, 61, 62] [] y y3 := by rw [hy3]; exact f2.fmr
      exact h1.trans f4.fmr
    have fu6 : FmR [(1, 1), (2, 1), (2, 2), (2, 3), (13, 2), (14, 2), (8, 1)] [43, 45, 44, 46, 61, 62] [33] u y6 := FmR.trans (FmR.trans (fy.mono rfl rfl rfl).fmr (FmR.mono f25 rfl rfl rfl)) (f6.mono rfl rfl rfl).fmr
    have i6 : ∀ a b, [(1, 1), (2, 1), (2, 2), (2, 3), (13, 2), (14, 2), (8, 1)].contains (a, b) = false → y6.1 a b = u.1 a b := fun a b q => fu6.i a b q
    have a6 : ∀ a, [43, 45, 44, 46, 61, 62].contains a = false → y6.2.1 a = u.2.1 a := fun a q => fu6.a a q
    -- the model
    have xz : (sI y6 47 0 0).1 47 18 = nI n ∧ RowN n ((sI y6 47 0 0).2.1 57) c := by
      refine ⟨?_, ?_⟩
      · show y6.1 47 18 = _
        rw [i6 47 18 rfl]; exact hxm.1
      · show RowN n (y6.2.1 57) c
        rw [a6 57 rfl]; exact hxm.2
    obtain ⟨w1, e7, g18, md, _, f7⟩ := rules_m ht xz
    have hK' := hK
    unfold spK at hK'
    rw [show anV n (spR n c).1 (spR n c).2.1 0 = 0 by unfold anV; rw [hK']; rfl] at e7
    have f67 : Fm [(47, 0), (47, 18), (47, 19), (47, 20), (47, 21), (47, 27)] [60] [] y6 w1 := (Fm.rf.sI rfl).trans (f7.mono rfl rfl rfl)
    have dM1 : DatM D w1 ∧ MoM D m 55 w1 := by
      have : DatM D y6 ∧ MoM D m 55 y6 := by
        unfold DatM MoM at *
        rw [i6 47 3 rfl, i6 47 4 rfl, i6 47 5 rfl, i6 47 6 rfl, i6 47 7 rfl, a6 49 rfl, a6 50 rfl, a6 51 rfl, a6 52 rfl, a6 53 rfl, a6 54 rfl, a6 55 rfl]
        exact ⟨hDM, hMM⟩
      exact ⟨this.1.fm f67 rfl rfl, this.2.fm f67 rfl⟩
    have e26 : gI w1 47 26 = nI k := (f67.i 47 26 rfl).trans ((i6 47 26 rfl).trans ek)
    have e59 : w1.2.1 59 = u.2.1 59 := (f67.a 59 rfl).trans (a6 59 rfl)
    have hM1 : Ml D m w1 := ⟨⟨hO, dM1.1, hMo, dM1.2⟩, _, k, hk, e26, by rw [e59]; exact hoR, by rw [e59]; exact hdr⟩
    obtain ⟨w2, e8, f8⟩ := pairs_k hM1
    obtain ⟨w3, e9, t9, g26, l9, f9⟩ := law35_m (x := 0) (y := prN D m) hk ((f8.i 47 26 rfl).trans e26) (hM1.sx f8).1 eD' (show Md (spR n c).2.2.2 w2 from ⟨(f8.i 47 27 rfl).trans (md hK).1, (md hK).2.1, by rw [f8.a 60 rfl]; exact (md hK).2.2⟩) ⟨_, hrel⟩
    have em : fX12_law y6 = some (nI (prN D' m) - nI (prN D m), w3) := by
      unfold fX12_law
      rw [nxs, e7, oBs, if_pos (show (0 : Int32) ≤ 0 by decide), e8, oBs, show gI w2 47 26 = nI k from (f8.i 47 26 rfl).trans e26, e9]
    refine ⟨_, y6, w3, ec, em, ?_⟩
    have f63 : Fm [(47, 0), (47, 18), (47, 19), (47, 20), (47, 21), (47, 27), (47, 1), (47, 26)] [60, 59, 81, 44, 46, 61, 62] [48] y6 w3 := ((f67.mono rfl rfl rfl).trans (f8.mono rfl rfl rfl)).trans (f9.mono rfl rfl rfl)
    have fa : FmR rulI rulA scrJt u w3 := FmR.trans (FmR.mono fu6 rfl rfl rfl) (f63.mono rfl rfl rfl).fmr
    have y61 : y6.1 = y6.1 := rfl
    refine Inv_rul hI fa ?_ ?_ (told_of (t6.fm f63 rfl rfl) t9 (show 2 ≤ 36 by decide)) (irul_keep hRu hq0 hv0 hne fs cn ?_ ?_ ?_ ?_ ?_ ?_ ?_ ?_)
    · rw [f63.i 1 1 rfl, f6.i 1 1 rfl, show y5.1 1 1 = y.1 1 1 from f25.i 1 1 rfl]; exact y1
    · exact (f9.i 47 18 rfl).trans ((f8.i 47 18 rfl).trans g18)
    · rw [f63.2.2.2, f6.2.2.2]; exact p5.2.2.2.1
    · rw [f63.2.2.2, f6.2.2.2]; exact p5.2.2.2.2
    · rw [f63.i 13 2 rfl, f6.i 13 2 rfl]; exact f25.i 13 2 rfl
    · rw [f63.i 14 2 rfl, f6.i 14 2 rfl]; exact f25.i 14 2 rfl
    · exact g26.trans ek.symm
    · rw [f63.a 43 rfl, f6.a 43 rfl]; exact f25.a 43 rfl
    · rw [f63.a 45 rfl, f6.a 45 rfl]; exact f25.a 45 rfl
    · intro k2 h2 e2 j hj
      have : k2 = k := (nI_eq (by omega) (by omega)).mp (e2.symm.trans ek)
      subst this
      rw [l9 j hj, f8.a 59 rfl, e59]
