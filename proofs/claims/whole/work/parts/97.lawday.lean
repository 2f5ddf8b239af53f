/-! law: another rule for a while -/
variable {D : DD} {m m' : MM} {e r : Nat} {u v w : US} {n mo p : Nat} {c : Nat → Nat} {ok : Bool}
theorem pc_b (p : Nat → Bool) {n : Nat} (hn : n ≤ 8) : pcN (bN p n) = fb_ct p n := by
  obtain ⟨j, hj⟩ : ∃ j, 8 = n + j := ⟨8 - n, (by omega)⟩
  unfold pcN
  rw [hj, fb_ct_split]
  have e1 : fb_ct (fun i => (bN p n).testBit i) n = fb_ct p n := fb_ct_cong (fun k hk => by rw [bN_tb, decide_eq_true hk, Bool.true_and])
  have e2 : fb_ct (fun k => (bN p n).testBit (n + k)) j = 0 := fb_ct_zero.mpr (fun k _ => by rw [bN_tb, decide_eq_false (by omega)]; rfl)
  rw [e1, e2, Nat.add_zero]
/-- pairs let through -/
def prN (D : DD) (m : MM) : Nat := fb_sm (fun p => fb_ct (leT D m p) (dT D)) (dP D)
/-- the class without the model's rule -/
def Cl (D : DD) (m : MM) (u : US) : Prop := (DatO D ∧ DatC D u ∧ MoOK D m ∧ MoC D m 4 u) ∧ ∃ (q a : Nat) (ms : List Int32), (q = 13 ∨ q = 14) ∧ gR u 0 = q ∧ a ≤ 40 ∧ gI u q 2 = nI a ∧ RuleRel (codL (u.2.1 (fpt q 0)) a) ms ∧ dr D = rlV ms
theorem Cl.sx (h : Cl D m u) (f : Sx u v) : Cl D m v := by
  obtain ⟨⟨h1, h2, h3, h4⟩, q, a, ms, hq, h5, h6, h7, h8, h9⟩ := h
  refine ⟨⟨h1, h2.fm f rfl rfl, h3, h4.fm f rfl rfl⟩, q, a, ms, hq, ?_, h6, ?_, ?_, h9⟩
  · show v.2.2.2 0 = q
    rw [f.2.2.2]; exact h5
  · rcases hq with rfl | rfl
    · exact (f.i 13 2 rfl).trans h7
    · exact (f.i 14 2 rfl).trans h7
  · rcases hq with rfl | rfl
    · rw [show v.2.1 (fpt 13 0) = u.2.1 (fpt 13 0) from f.a 43 rfl]; exact h8
    · rw [show v.2.1 (fpt 14 0) = u.2.1 (fpt 14 0) from f.a 45 rfl]; exact h8
theorem rule_l {q a : Nat} {ms : List Int32} (hq : q = 13 ∨ q = 14) (ha : a ≤ 40) (esz : gI u q 2 = nI a) (hR : RuleRel (codL (u.2.1 (fpt q 0)) a) ms) {l h k s : Nat} (hl : l < 10) (hh : h < 256) (hk : k < 8) (hs : s < 10) (t : Int32) : ∃ v, fX6_lets q (nI l) (nI h) (nI k) (nI s) t u = some (bI (rlV ms l h k s t), v) ∧ Sx u v := by
  have hr : isRul q = true := by rcases hq with rfl | rfl <;> rfl
  unfold fX6_lets
  rw [gd_t hr, esz]
  by_cases h0 : a = 0
  · subst h0
    rw [if_pos (show nI 0 = 0 from rfl), bears_c hl hh hk hs, oBs, gd_t (isB_bI _)]
    have : ms = [] := by
      rcases hR with ⟨_, e⟩ | ⟨e, _⟩
      · exact e
      · exact absurd rfl e
    rw [this]
    exact ⟨u, rfl, Fm.rf⟩
  · rw [if_neg (nI_ne0 (by omega) (by omega))]
    obtain ⟨x, e1, e2, e3, e4⟩ := rlV_of (t := t) hR (fun e => h0 (by have := codL_len (u.2.1 (fpt q 0)) a; rw [e] at this; exact this.symm)) hl hh hk hs
    rw [e3]
    exact evc_run hq ha esz e1
theorem lets_l (h : Cl D m u) {p k s : Nat} (hp : p < dP D) (hk : k < 8) (hs : s < 10) (t : Int32) : ∃ v, fX8_lets 4 t (nI p) (nI k) (nI s) u = some (bI (letB D m t p k s), v) ∧ Sx u v := by
  obtain ⟨⟨hO, hC, hm, hM⟩, q, a, ms, hq, h5, h6, h7, h8, h9⟩ := h
  have b := hO.1
  have hb := hm.b256 hO
  have hp8 : p < 8 := by have := b.2.2.2.2.2.1; omega
  unfold fX8_lets letB fX1_isBroken
  rw [gd_t (show isMom 4 = true from rfl), gd_t (show isMom 4 = true from rfl), show gI u 4 3 = nI (mB m) from hM.2.2.2.1, has_c (by omega) (by omega), oBs, gd_t (isB_bI _), oBs]
  cases hB : (mB m).testBit p with
  | true => exact ⟨u, rfl, Fm.rf⟩
  | false =>
    have hP : dP D ≤ 36 := by have := b.2.2.2.2.2.1; omega
    have hl := hO.2.2.2.1 p hp
    have hh := hO.2.2.2.2.1 p hp
    obtain ⟨v, e1, f1⟩ := rule_l hq h6 h7 h8 hl hh hk hs t
    rw [if_pos (show bI false = 0 from rfl), gdi hp8 (by omega), gdi hp8 (by omega), show gA u 18 (nI p) = nI (dl D p) from rowg hC.2.2.2.1 hp hP, show gA u 19 (nI p) = nI (dh D p) from rowg hC.2.2.2.2.1 hp hP, Bool.false_or, h5, gd_t (show isRul q = true by rcases hq with rfl | rfl <;> rfl), e1, oBs, h9]
    refine ⟨v, ?_, f1⟩
    cases rlV ms (dl D p) (dh D p) k s t <;> rfl
theorem through_l (h : Cl D m u) {p a : Nat} (hp : p < dP D) (ha : a < 256) : ∃ v, fX8_through 4 (nI p) (nI a) u = some (nI (thN D m p a), v) ∧ Sx u v := by
  have b := h.1.1.1
  have hT8 : dT D ≤ 8 := b.2.2.2.2.1
  unfold fX8_through
  rw [gd_t (show isMom 4 = true from rfl)]
  refine lp (fun f (s : Int32 × Int32) w => fX8_through_6 4 (nI p) (nI a) f s.1 s.2 w) (dT D) (fun k s w => s = (nI (bN (fun t => a.testBit t && leT D m p t) k), nI k) ∧ Sx u w) (fun o => ∃ v, o = some (nI (thN D m p a), v) ∧ Sx u v) ?_ ?_ FU 0 (0, 0) u (FUg (by omega)) (Nat.zero_le _) ⟨rfl, Fm.rf⟩
  · rintro n k ⟨x, y⟩ w hk ⟨e0, hf⟩
    cases e0
    left
    have hw := h.sx hf
    obtain ⟨⟨hO, hC, hm, hM⟩, -⟩ := id hw
    show ∃ s' v, _ ∧ fX8_through_6 4 (nI p) (nI a) (n + 1) (nI (bN (fun t => a.testBit t && leT D m p t) k)) (nI k) w = _
    rw [fX8_through_6, show gI w 3 2 = nI (dT D) from hC.1.2.2.1, if_neg (nI_ge hk (by omega)), has_c (by omega) (by omega), oBs]
    by_cases ht : a.testBit k = true
    · obtain ⟨v, e1, f1⟩ := lets_l hw hp (hO.2.1 k hk) (hO.2.2.1 k hk) (mT m)
      rw [ht, if_neg (show ¬ bI true = 0 by decide), gdi (show k < 8 by omega) (by omega), gdi (show k < 8 by omega) (by omega), show gI w 4 4 = mT m from hM.2.2.2.2, show gA w 16 (nI k) = nI (dk D k) from rowg hC.2.1 hk (by omega), show gA w 17 (nI k) = nI (ds D k) from rowg hC.2.2.1 hk (by omega), e1, oBs, nI_1]
      exact ⟨(_, nI (k + 1)), v, ⟨rfl, hf.trans f1⟩, bit_c (p := fun t => a.testBit t && leT D m p t) (by omega) (by rw [ht]; rfl) (fun x => fX8_through_6 4 (nI p) (nI a) n x (nI (k + 1)) v)⟩
    · rw [ts_nt ht, if_pos (show bI false = 0 from rfl), nI_1]
      exact ⟨(_, nI (k + 1)), w, ⟨rfl, hf⟩, by rw [bN_n (by rw [ts_nt ht]; rfl)]⟩
  · rintro n ⟨x, y⟩ w ⟨e0, hf⟩
    cases e0
    have hw := h.sx hf
    show ∃ v, fX8_through_6 4 (nI p) (nI a) (n + 1) (nI (bN (fun t => a.testBit t && leT D m p t) (dT D))) (nI (dT D)) w = _ ∧ _
    rw [fX8_through_6, show gI w 3 2 = nI (dT D) from hw.1.2.1.1.2.2.1, if_pos (nI_le (Nat.le_refl _) (by omega))]
    exact ⟨w, rfl, hf⟩
theorem pr_le (hO : DatO D) (k : Nat) (hk : k ≤ dP D) : fb_sm (fun p => fb_ct (leT D m p) (dT D)) k ≤ 64 := by
  have b := hO.1
  have h1 : fb_sm (fun p => fb_ct (leT D m p) (dT D)) k ≤ k * 8 := fb_sm_bound (fun p _ => Nat.le_trans (fb_ct_le _ _) b.2.2.2.2.1)
  have := b.2.2.2.2.2.1
  omega
theorem pairs_l (h : Cl D m u) : ∃ v, fX8_pairsThrough 4 u = some (nI (prN D m), v) ∧ Sx u v := by
  have b := h.1.1.1
  have hT8 : dT D ≤ 8 := b.2.2.2.2.1
  have hP8 : dP D ≤ 8 := b.2.2.2.2.2.1
  unfold fX8_pairsThrough
  rw [gd_t (show isMom 4 = true from rfl)]
  refine lpE (fun f (z : Int32 × Int32) w => fX8_pairsThrough_4 4 f z.1 z.2 w) (dP D) (fun i => (nI (fb_sm (fun p => fb_ct (leT D m p) (dT D)) i), nI i)) (fun i w => Sx u w) (fun o => ∃ v, o = some (nI (prN D m), v) ∧ Sx u v) ?_ ?_ (by omega) (0, 0) rfl Fm.rf
  · rintro f i w hi hf
    left
    have hw := h.sx hf
    have h8 := two8 hT8
    dsimp only
    obtain ⟨v, e1, f1⟩ := through_l (a := 2 ^ dT D - 1) hw hi (by omega)
    have eb : thN D m i (2 ^ dT D - 1) < 256 := Nat.lt_of_lt_of_le (bN_lt _ _) (pow8 hT8)
    refine ⟨v, hf.trans f1, ?_⟩
    rw [fX8_pairsThrough_4, show gI w 3 3 = nI (dP D) from hw.1.2.1.1.2.2.2.1, if_neg (nI_ge hi (by omega)), show fX8_allThings w = some (nI (2 ^ dT D - 1), w) by unfold fX8_allThings; rw [show gI w 3 2 = nI (dT D) from hw.1.2.1.1.2.2.1, all_c hT8]; rfl, oBs, e1, oBs, bc_n eb, oBs, nI_add, nI_1, thN_all, pc_b _ hT8]; rfl
  · rintro f w hf
    have hw := h.sx hf
    dsimp only
    rw [fX8_pairsThrough_4, show gI w 3 3 = nI (dP D) from hw.1.2.1.1.2.2.2.1, if_pos (nI_le (Nat.le_refl _) (by omega))]
    exact ⟨w, rfl, hf⟩
/-- the model without the class's rule -/
def Ml (D : DD) (m : MM) (u : US) : Prop := (DatO D ∧ DatM D u ∧ MoOK D m ∧ MoM D m 55 u) ∧ ∃ (cs : List Int32) (k : Nat), k ≤ 80 ∧ gI u 47 26 = nI k ∧ RuleRel cs (codL (u.2.1 59) k) ∧ dr D = rlV (codL (u.2.1 59) k)
theorem Ml.sx (h : Ml D m u) (f : Sx u v) : Ml D m v := by
  obtain ⟨⟨h1, h2, h3, h4⟩, cs, k, h5, h6, h7, h8⟩ := h
  refine ⟨⟨h1, h2.fm f rfl rfl, h3, h4.fm f rfl⟩, cs, k, h5, (f.i 47 26 rfl).trans h6, ?_, ?_⟩
  · rw [f.a 59 rfl]; exact h7
  · rw [f.a 59 rfl]; exact h8
theorem lets_k (h : Ml D m u) {p k s : Nat} (hp : p < dP D) (hk : k < 8) (hs : s < 10) : ∃ v, fX12_lets 55 (nI p) (nI k) (nI s) u = some (bI (letB D m (mT m) p k s), v) ∧ Sx u v := by
  obtain ⟨⟨hO, hD, hm, hM⟩, cs, k', hk', ek, hR, hd⟩ := h
  have b := hO.1
  have hp8 : dP D ≤ 8 := b.2.2.2.2.2.1
  have hB := hm.b256 hO
  have hl := hO.2.2.2.1 p hp
  have hh := hO.2.2.2.2.1 p hp
  have key : ∀ W : US, Fm [] [62] [] u W → Askd (nI (dl D p)) (nI (dh D p)) (nI k) (nI s) (mT m) (W.2.1 62) → ∃ v, (oB (fX12_has (nI (mB m)) (nI p) W) fun r10 u10 => (if r10 = 0 then oB (fX12_ruled u10) fun r11 u11 => (if r11 = 0 then some (0, u11) else some (1, u11)) else some (1, u10))) = some (bI (letB D m (mT m) p k s), v) ∧ Sx u v := by
    intro W hf hA
    rw [has_m (by omega) (by omega), oBs]
    unfold letB
    cases hb : (mB m).testBit p with
    | true => exact ⟨W, rfl, hf.mono rfl rfl rfl⟩
    | false =>
      rw [if_pos (show bI false = 0 from rfl), Bool.false_or]
      have hz : gI W 47 26 = nI k' := (hf.i 47 26 rfl).trans ek
      rw [hd]
      by_cases h0 : k' = 0
      · subst h0
        rw [ruled0 hA hz, oBs, nm3 hh hk]
        refine ⟨W, ?_, hf.mono rfl rfl rfl⟩
        show _ = some (bI (!(dh D p).testBit k && decide (s ≤ dl D p)), W)
        cases hq : (dh D p).testBit k with
        | true => rfl
        | false =>
          by_cases hq2 : s ≤ dl D p
          · rw [if_pos (show bI false = 0 from rfl), if_neg (nI_nlt hq2 (by omega)), decide_eq_true hq2]; rfl
          · rw [if_pos (show bI false = 0 from rfl), if_pos (nI_lt (by omega) (by omega)), decide_eq_false hq2]; rfl
      · have hne : cs ≠ [] := by
          intro e0
          rcases hR with ⟨_, e⟩ | ⟨e, _⟩
          · exact h0 (by have := codL_len (u.2.1 59) k'; rw [e] at this; exact this.symm)
          · exact e e0
        obtain ⟨x, e1, e2, e3, e4⟩ := rlV_of (t := mT m) hR hne hl hh hk hs
        rw [e3]
        have e59 : W.2.1 59 = u.2.1 59 := hf.a 59 rfl
        obtain ⟨v, e5, f5⟩ := evm_run hk' (by omega) hz hA (by rw [e59]; exact e2)
        unfold fX12_ruled
        rw [e5, oBs]
        refine ⟨v, ?_, (hf.mono rfl rfl rfl).trans (f5.mono rfl rfl rfl)⟩
        by_cases hx0 : x = 0
        · rw [if_pos hx0, hx0]; rfl
        · rw [if_neg hx0, show (x != 0) = true by simp [hx0]]; rfl
  have o1 : ∀ (w : US) (x y z : Int32), gA (sA w 62 x y) 51 z = gA w 51 z := fun _ _ _ _ => rfl
  have o2 : ∀ (w : US) (x y z : Int32), gA (sA w 62 x y) 52 z = gA w 52 z := fun _ _ _ _ => rfl
  have o3 : ∀ (w : US) (x y z : Int32), gA (sA w 62 x y) 55 z = gA w 55 z := fun _ _ _ _ => rfl
  have i8 : inb (nI p) 8 = true := inb_nI (by omega) (by omega)
  have hm1 := has_m (a := dh D p) (k := k) (by omega) (by omega)
  have g1 : gA u 51 (nI p) = nI (dl D p) := rowg hD.2.2.2.1 hp (by omega)
  have g2 : gA u 52 (nI p) = nI (dh D p) := rowg hD.2.2.2.2.1 hp (by omega)
  have g3 : gA u 55 24 = nI (mB m) := hM.2.2.2.1
  have g4 : gA u 55 25 = mT m := hM.2.2.2.2
  unfold fX12_lets
  simp only [nx, gd_t (show okA 55 20 = true from rfl), gd_t i8, gd_t (show inb 0 6 = true from rfl), gd_t (show inb 1 6 = true from rfl), gd_t (show inb 2 6 = true from rfl), gd_t (show inb 3 6 = true from rfl), gd_t (show inb 4 6 = true from rfl), gd_t (show inb 5 6 = true from rfl), show ln 55 = 26 from rfl, gd_t (show inb 24 26 = true from rfl), gd_t (show inb 25 26 = true from rfl), o1, o2, o3, g1, g2, g3, g4, hm1, oBs, flag_m, bc_e, show ¬ (24 : Int32) = 0 by decide, if_false]
  refine key _ ((((((Fm.rf.sA rfl).sA rfl).sA rfl).sA rfl).sA rfl).sA rfl) ?_
  intro j hj
  rcases (show j = 0 ∨ j = 1 ∨ j = 2 ∨ j = 3 ∨ j = 4 ∨ j = 5 by omega) with rfl | rfl | rfl | rfl | rfl | rfl
  · rfl
  · rfl
  · rfl
  · rw [nm3 hh hk]; rfl
  · rfl
  · rfl
theorem bI_nat (b : Bool) : bI b = nI (if b then 1 else 0) := by cases b <;> rfl
theorem pairs_k (h : Ml D m u) : ∃ v, fX12_pairsLet u = some (nI (prN D m), v) ∧ Sx u v := by
  have b := h.1.1.1
  have hT8 : dT D ≤ 8 := b.2.2.2.2.1
  have hP8 : dP D ≤ 8 := b.2.2.2.2.2.1
  unfold fX12_pairsLet
  refine lpE (fun f (z : Int32 × Int32) w => fX12_pairsLet_4 f z.1 z.2 w) (dP D) (fun i => (nI (fb_sm (fun p => fb_ct (leT D m p) (dT D)) i), nI i)) (fun i w => Sx u w) (fun o => ∃ v, o = some (nI (prN D m), v) ∧ Sx u v) ?_ ?_ (by omega) (0, 0) rfl Fm.rf
  · rintro f i w hi hf
    left
    have hw := h.sx hf
    dsimp only
    rw [fX12_pairsLet_4, show gI w 47 6 = nI (dP D) from hw.1.2.1.1.2.2.2.1, if_neg (nI_ge hi (by omega))]
    refine lpE (fun g (z : Int32 × Int32) x => fX12_pairsLet_14 (fX12_pairsLet_4 f) g z.1 (nI i) z.2 x) (dT D) (fun j => (nI (fb_sm (fun p => fb_ct (leT D m p) (dT D)) i + fb_ct (leT D m i) j), nI j)) (fun j x => Sx u x) (fun o => ∃ v, Sx u v ∧ o = fX12_pairsLet_4 f (nI (fb_sm (fun p => fb_ct (leT D m p) (dT D)) (i + 1))) (nI (i + 1)) v) ?_ ?_ (by omega) (nI (fb_sm (fun p => fb_ct (leT D m p) (dT D)) i), 0) rfl hf
    · rintro g j x hj hx
      left
      have hX := h.sx hx
      obtain ⟨v, e1, f1⟩ := lets_k hX hi (hX.1.1.2.1 j hj) (hX.1.1.2.2.1 j hj)
      refine ⟨v, hx.trans f1, ?_⟩
      dsimp only
      rw [fX12_pairsLet_14, show gI x 47 5 = nI (dT D) from hX.1.2.1.1.2.2.1, if_neg (nI_ge hj (by omega)), gdi (show j < 8 by omega) (by omega), gdi (show j < 8 by omega) (by omega), show gA x 49 (nI j) = nI (dk D j) from rowg hX.1.2.1.2.1 hj (by omega), show gA x 50 (nI j) = nI (ds D j) from rowg hX.1.2.1.2.2.1 hj (by omega), e1, oBs, flag_m, oBs, bI_nat, nI_add, nI_1, fb_ct_succ, Nat.add_assoc]; rfl
    · rintro g x hx
      have hX := h.sx hx
      dsimp only
      rw [fX12_pairsLet_14, show gI x 47 5 = nI (dT D) from hX.1.2.1.1.2.2.1, if_pos (nI_le (Nat.le_refl _) (by omega)), nI_1]
      exact ⟨x, hx, rfl⟩
  · rintro f w hf
    have hw := h.sx hf
    dsimp only
    rw [fX12_pairsLet_4, show gI w 47 6 = nI (dP D) from hw.1.2.1.1.2.2.2.1, if_pos (nI_le (Nat.le_refl _) (by omega))]
    exact ⟨w, rfl, hf⟩
def setR (D : DD) (f : Nat → Nat → Nat → Nat → Int32 → Bool) : DD := (D.1, D.2.1, D.2.2.1, D.2.2.2.1, D.2.2.2.2.1, D.2.2.2.2.2.1, D.2.2.2.2.2.2.1, f)
theorem irul_keep {q0 v0 : Nat} {y z : US} (hRu : IRul (u.2.2.2 0) (u.2.2.2 1) (u.1 13 2) (u.1 14 2) (u.1 47 26) (u.2.1 43) (u.2.1 45) (u.2.1 59)) (hq0 : u.2.2.2 0 = q0) (hv0 : u.2.2.2 1 = v0) (hne : (q0 = 13 ∧ v0 = 14) ∨ (q0 = 14 ∧ v0 = 13)) (fs : FS v0 u y) (cn : Cn v0 y) (z0 : z.2.2.2 0 = q0) (z1 : z.2.2.2 1 = v0) (e13 : z.1 13 2 = y.1 13 2) (e14 : z.1 14 2 = y.1 14 2) (e26 : z.1 47 26 = u.1 47 26) (e43 : z.2.1 43 = y.2.1 43) (e45 : z.2.1 45 = y.2.1 45) (e59 : ∀ k, k ≤ 80 → u.1 47 26 = nI k → ∀ j, j < k → z.2.1 59 j = u.2.1 59 j) : IRul (z.2.2.2 0) (z.2.2.2 1) (z.1 13 2) (z.1 14 2) (z.1 47 26) (z.2.1 43) (z.2.1 45) (z.2.1 59) := by
  obtain ⟨a, b, k', ha, hb, hk', ea, eb, ek, hr⟩ := hRu
  obtain ⟨x, x1, x2⟩ := cn
  rw [z0, z1, e13, e14, e26, e43, e45]
  have ec : codL (z.2.1 59) k' = codL (u.2.1 59) k' := codL_eq (e59 k' hk' ek)
  rw [hq0, hv0] at hr
  rcases hne with ⟨rfl, rfl⟩ | ⟨rfl, rfl⟩
  · refine ⟨a, x, k', ha, x1, hk', ((fs.2 rfl).i 13 2 rfl).trans ea, x2, ek, Or.inl ⟨rfl, rfl, ?_⟩⟩
    rw [(fs.2 rfl).a 43 rfl, ec]
    rcases hr with ⟨_, _, h⟩ | ⟨h, _⟩
    · exact h
    · exact absurd h (by decide)
  · refine ⟨x, b, k', x1, hb, hk', x2, ((fs.1 rfl).i 14 2 rfl).trans eb, ek, Or.inr ⟨rfl, rfl, ?_⟩⟩
    rw [(fs.1 rfl).a 45 rfl, ec]
    rcases hr with ⟨h, _⟩ | ⟨_, _, h⟩
    · exact absurd h (by decide)
    · exact h
theorem law_neg : ∀ p : Nat, p < 81 → ((-1 : Int32) - nI p + 1) - 10000 = -10000 - nI p := by decide +kernel
/-- the model lays the new rule, counts, and lays the old one again -/
theorem law35_m {D' : DD} {x y k : Nat} {L : List Int32} (hk : k ≤ 80) (h26 : gI u 47 26 = nI k) (hM : (DatO D ∧ DatM D u ∧ MoOK D m ∧ MoM D m 55 u)) (eD : D' = setR D (rlV L)) (hL : Md L u) (hR : ∃ cs, RuleRel cs L) : ∃ v, fX12_law_35 FU (nI y) (nI k) 0 u = some (nI (prN D' m) - nI y, v) ∧ TolM [(nI (prN D' m)).toInt64, (nI y).toInt64] v ∧ gI v 47 26 = nI k ∧ (∀ j, j < k → v.2.1 59 j = u.2.1 59 j) ∧ Fm [(47, 1), (47, 26)] [59, 81, 44, 46, 61, 62] [48] u v := by
  refine lpE (fun f (z : Int32) w => fX12_law_35 f (nI y) (nI k) z w) k (fun i => nI i) (fun i w => (∀ j, j < i → w.2.1 81 j = u.2.1 59 j) ∧ Fm [] [81] [] u w) (fun o => ∃ v, o = some (nI (prN D' m) - nI y, v) ∧ TolM [(nI (prN D' m)).toInt64, (nI y).toInt64] v ∧ gI v 47 26 = nI k ∧ (∀ j, j < k → v.2.1 59 j = u.2.1 59 j) ∧ Fm [(47, 1), (47, 26)] [59, 81, 44, 46, 61, 62] [48] u v) ?_ ?_ (by omega) 0 rfl ⟨fun j hj => absurd hj (Nat.not_lt_zero j), Fm.rf⟩
  · rintro f i w hi ⟨h1, h2⟩
    left
    rw [fX12_law_35, show gI w 47 26 = nI k from (h2.i 47 26 rfl).trans h26, if_neg (nI_ge hi (by omega)), gdi (show i < 80 by omega) (by omega), gdi (show i < 80 by omega) (by omega), nxs, nI_1]
    refine ⟨sA w 81 (nI i) (gA w 59 (nI i)), ⟨fun j hj => ?_, h2.sA rfl⟩, rfl⟩
    show upd (w.2.1 81) (nI i).toNatClampNeg (w.2.1 59 (nI i).toNatClampNeg) j = _
    rw [nI_clamp (by omega)]
    by_cases q : j = i
    · subst q; rw [pk_us, h2.a 59 rfl]
    · rw [pk_un q]; exact h1 j (by omega)
  · rintro f w ⟨h1, h2⟩
    obtain ⟨m1, m2, m3⟩ := hL
    obtain ⟨w1, e1, g1, l1, f1⟩ := layc_m (u := w) (v1 := 60) (Or.inl rfl) m2
    have l1' : codL (w1.2.1 59) L.length = L := by rw [codL_eq l1, h2.a 60 rfl]; exact m3
    have hM1 : Ml D' m w1 := by
      obtain ⟨a1, a2, a3, a4⟩ := hM
      obtain ⟨cs, hcs⟩ := hR
      subst eD
      refine ⟨⟨a1, ?_, a3, ?_⟩, cs, L.length, m2, g1, by rw [l1']; exact hcs, by rw [l1']; rfl⟩
      · exact ((show DatM (setR D (rlV L)) u from a2).fm h2 rfl rfl).fm f1 rfl rfl
      · exact ((show MoM (setR D (rlV L)) m 55 u from a4).fm h2 rfl).fm f1 rfl
    obtain ⟨w2, e2, f2⟩ := pairs_k hM1
    obtain ⟨w3, e3, g3, l3, f3⟩ := layc_m (u := w2) (v1 := 81) (Or.inr rfl) hk
    obtain ⟨w4, e4, t4, f4⟩ := en_m (clr_m w3) (by decide) (nI (prN D' m)).toInt64
    obtain ⟨w5, e5, t5, f5⟩ := en_m t4 (by simp) (nI y).toInt64
    rw [fX12_law_35, show gI w 47 26 = nI k from (h2.i 47 26 rfl).trans h26, if_pos (nI_le (Nat.le_refl _) (by omega)), show gI w 47 27 = nI L.length from (h2.i 47 27 rfl).trans m1, e1, oVs, e2, oBs, e3, oVs, nxs, e4, oVs, e5, oVs]
    have f45 : Fm [(47, 1)] [] [48] w3 w5 := ((Fm.rf.sI rfl).trans f4).trans f5
    refine ⟨w5, rfl, t5, (f45.i 47 26 rfl).trans g3, fun j hj => ?_, ((((h2.mono rfl rfl rfl).trans (f1.mono rfl rfl rfl)).trans (f2.mono rfl rfl rfl)).trans (f3.mono rfl rfl rfl)).trans (f45.mono rfl rfl rfl)⟩
    rw [f45.a 59 rfl, l3 j hj, f2.a 81 rfl, f1.a 81 rfl]
    exact h1 j hj
theorem st_37 : St_37 Inv := by
  intro kk u hkk hI
  obtain ⟨n, c, hn, hc, hxc, hxm⟩ := tx_of hI
  have ht : Tok n 40 c := ⟨hn, by decide, hc⟩
  have hRu := Inv_irul hI
  have hTo := Inv_told hI
  obtain ⟨q0, v0, hq0, hv0, hV, hne⟩ : ∃ q0 v0, u.2.2.2 0 = q0 ∧ u.2.2.2 1 = v0 ∧ IsV v0 ∧ ((q0 = 13 ∧ v0 = 14) ∨ (q0 = 14 ∧ v0 = 13)) := by
    obtain ⟨a, b, k', _, _, _, _, _, _, ⟨r0, r1, _⟩ | ⟨r0, r1, _⟩⟩ := hRu
    · exact ⟨13, 14, r0, r1, Or.inr rfl, Or.inl ⟨rfl, rfl⟩⟩
    · exact ⟨14, 13, r0, r1, Or.inl rfl, Or.inr ⟨rfl, rfl⟩⟩
  obtain ⟨y, e1, y1, cn, cd, fs⟩ := spare_c ht hV hv0 hxc
  have fy : Fm [(1, 1), (2, 1), (2, 2), (2, 3), (13, 2), (14, 2)] [43, 45] [] u y := by
    rcases hV with q | q
    · exact (fs.1 q).mono rfl rfl rfl
    · exact (fs.2 q).mono rfl rfl rfl
  have R1 : gR y 1 = v0 := by show y.2.2.2 1 = _; rw [fy.2.2.2, hv0]
  have R0 : gR y 0 = q0 := by show y.2.2.2 0 = _; rw [fy.2.2.2, hq0]
  cases hK : spK n c with
  | false =>
    rw [hK, if_neg (by decide)] at e1
    have xz : (sI y 47 0 0).1 47 18 = nI n ∧ RowN n ((sI y 47 0 0).2.1 57) c := by
      refine ⟨?_, ?_⟩
      · show y.1 47 18 = _
        rw [fy.i 47 18 rfl]; exact hxm.1
      · show RowN n (y.2.1 57) c
        rw [fy.a 57 rfl]; exact hxm.2
    obtain ⟨w1, e2, g18, md, hle, f2⟩ := rules_m ht xz
    have hK' := hK
    unfold spK at hK'
    rw [show anV n (spR n c).1 (spR n c).2.1 0 = -1 - nI (spR n c).1 by unfold anV; rw [hK']; rfl] at e2
    have ec : fX11_law u = some (-10000 - nI (spR n c).1, y) := by
      unfold fX11_law
      rw [e1, oBs, if_neg (n31 (by omega))]
    have em : fX12_law y = some (-10000 - nI (spR n c).1, w1) := by
      unfold fX12_law
      rw [nxs, e2, oBs, if_neg (neg_nle _ hle), law_neg _ (by omega)]
    refine ⟨_, y, w1, ec, em, ?_⟩
    have fz : Fm [(47, 0), (47, 18), (47, 19), (47, 20), (47, 21), (47, 27)] [60] [] y w1 := (Fm.rf.sI rfl).trans (f2.mono rfl rfl rfl)
    have fa : FmR rulI rulA scrJt u w1 := FmR.trans (fy.mono rfl rfl rfl).fmr (fz.mono rfl rfl rfl).fmr
    refine Inv_rul hI fa ((fz.i 1 1 rfl).trans y1) g18 ?_ (irul_keep hRu hq0 hv0 hne fs cn (by rw [fz.2.2.2]; exact R0) (by rw [fz.2.2.2]; exact R1) (fz.i 13 2 rfl) (fz.i 14 2 rfl) ((fz.i 47 26 rfl).trans (fy.i 47 26 rfl)) (fz.a 43 rfl) (fz.a 45 rfl) (fun _ _ _ j _ => by rw [fz.a 59 rfl, fy.a 59 rfl]))
    rw [fz.i 8 1 rfl, fz.i 47 1 rfl, fz.j 33 rfl, fz.j 48 rfl, fy.i 8 1 rfl, fy.i 47 1 rfl, fy.j 33 rfl, fy.j 48 rfl]; exact hTo
  | true =>
    rw [hK, if_pos rfl] at e1
    obtain ⟨D, m, hW, -⟩ := Inv_to hI
    obtain ⟨hO, hDC, hDM, hRl, hMo, hMC, hMM⟩ := id hW
    obtain ⟨c1, c2, c3⟩ := cd hK
    have hrel := sp_rel hK
    -- the class counts with the old rule
    obtain ⟨k, hk, ek, hdr⟩ := hRl.2
    have hold : ∃ a, a ≤ 40 ∧ gI y q0 2 = nI a ∧ RuleRel (codL (y.2.1 (fpt q0 0)) a) (codL (u.2.1 59) k) := by
      obtain ⟨a, b, k', ha, hb, hk', ea, eb, ek', hr⟩ := hRu
      have : k' = k := (nI_eq (by omega) (by omega)).mp (ek'.symm.trans ek)
      subst this
      rw [hq0, hv0] at hr
      rcases hne with ⟨rfl, rfl⟩ | ⟨rfl, rfl⟩
      · refine ⟨a, ha, ((fs.2 rfl).i 13 2 rfl).trans ea, ?_⟩
        rw [show y.2.1 (fpt 13 0) = u.2.1 43 from (fs.2 rfl).a 43 rfl]
        rcases hr with ⟨_, _, h⟩ | ⟨h, _⟩
        · exact h
        · exact absurd h (by decide)
      · refine ⟨b, hb, ((fs.1 rfl).i 14 2 rfl).trans eb, ?_⟩
        rw [show y.2.1 (fpt 14 0) = u.2.1 45 from (fs.1 rfl).a 45 rfl]
        rcases hr with ⟨h, _⟩ | ⟨_, _, h⟩
        · exact absurd h (by decide)
        · exact h
    obtain ⟨a, ha, ea, hoR⟩ := hold
    have hq : q0 = 13 ∨ q0 = 14 := by rcases hne with ⟨h, _⟩ | ⟨h, _⟩; exact Or.inl h; exact Or.inr h
    have hCy : Cl D m y := ⟨⟨hO, hDC.fm fy rfl rfl, hMo, hMC.fm fy rfl rfl⟩, q0, a, _, hq, R0, ha, ea, hoR, hdr⟩
    obtain ⟨y2, e2, f2⟩ := pairs_l hCy
    obtain ⟨y3, hy3⟩ : ∃ y3, y3 = sR (sR y2 0 (gR y2 1)) 1 (gR y2 0) := ⟨_, rfl⟩
    have g21 : gR y2 1 = v0 := by show y2.2.2.2 1 = _; rw [f2.2.2.2]; exact R1
    have g20 : gR y2 0 = q0 := by show y2.2.2.2 0 = _; rw [f2.2.2.2]; exact R0
    have p3 : y3.1 = y2.1 ∧ y3.2.1 = y2.2.1 ∧ y3.2.2.1 = y2.2.2.1 ∧ y3.2.2.2 0 = v0 ∧ y3.2.2.2 1 = q0 := by rw [hy3, g21, g20]; exact ⟨rfl, rfl, rfl, rfl, rfl⟩
    obtain ⟨D', eD'⟩ : ∃ D', D' = setR D (rlV (spR n c).2.2.2) := ⟨_, rfl⟩
    have hC3 : Cl D' m y3 := by
      subst eD'
      refine ⟨⟨hO, ?_, hMo, ?_⟩, v0, _, (spR n c).2.2.2, hV, p3.2.2.2.1, c2, ?_, ?_, rfl⟩
      · have := (hCy.sx f2).1.2.1
        unfold DatC at *
        rw [p3.1, p3.2.1]; exact this
      · have := (hCy.sx f2).1.2.2.2
        unfold MoC at *
        rw [p3.1, p3.2.1]; exact this
      · show y3.1 v0 2 = _
        rw [p3.1]
        rcases hV with rfl | rfl
        · exact (f2.i 13 2 rfl).trans c1
        · exact (f2.i 14 2 rfl).trans c1
      · rw [p3.2.1, show codL (y2.2.1 (fpt v0 0)) (spR n c).2.2.1.length = (spR n c).2.2.1 from by
          rcases hV with rfl | rfl
          · rw [show y2.2.1 (fpt 13 0) = y.2.1 (fpt 13 0) from f2.a 43 rfl]; exact c3
          · rw [show y2.2.1 (fpt 14 0) = y.2.1 (fpt 14 0) from f2.a 45 rfl]; exact c3]
        exact hrel
    obtain ⟨y4, e4, f4⟩ := pairs_l hC3
    obtain ⟨y5, hy5⟩ : ∃ y5, y5 = sR (sR y4 0 (gR y4 1)) 1 (gR y4 0) := ⟨_, rfl⟩
    have g41 : gR y4 1 = q0 := by show y4.2.2.2 1 = _; rw [f4.2.2.2]; exact p3.2.2.2.2
    have g40 : gR y4 0 = v0 := by show y4.2.2.2 0 = _; rw [f4.2.2.2]; exact p3.2.2.2.1
    have p5 : y5.1 = y4.1 ∧ y5.2.1 = y4.2.1 ∧ y5.2.2.1 = y4.2.2.1 ∧ y5.2.2.2 0 = q0 ∧ y5.2.2.2 1 = v0 := by rw [hy5, g41, g40]; exact ⟨rfl, rfl, rfl, rfl, rfl⟩
    obtain ⟨y6, e6, t6, f6⟩ := tl2_c (nI (prN D' m)).toInt64 (nI (prN D m)).toInt64 y5
    have ec : fX11_law u = some (nI (prN D' m) - nI (prN D m), y6) := by
      unfold fX11_law fX11_swapRules
      rw [e1, oBs, if_pos rfl, e2, oBs, nxs, nxs, oVs, ← hy3, e4, oBs, nxs, nxs, oVs, ← hy5, e6, oVs]
    have f25 : FmR [] [44, 46, 61, 62] [] y y5 := by
      rw [hy5]
      have h1 : FmR [] [44, 46, 61, 62] [] y y3 := by rw [hy3]; exact f2.fmr
      exact h1.trans f4.fmr
    have fu6 : FmR [(1, 1), (2, 1), (2, 2), (2, 3), (13, 2), (14, 2), (8, 1)] [43, 45, 44, 46, 61, 62] [33] u y6 := FmR.trans (FmR.trans (fy.mono rfl rfl rfl).fmr (FmR.mono f25 rfl rfl rfl)) (f6.mono rfl rfl rfl).fmr
    have i6 : ∀ a b, [(1, 1), (2, 1), (2, 2), (2, 3), (13, 2), (14, 2), (8, 1)].contains (a, b) = false → y6.1 a b = u.1 a b := fun a b q => fu6.i a b q
    have a6 : ∀ a, [43, 45, 44, 46, 61, 62].contains a = false → y6.2.1 a = u.2.1 a := fun a q => fu6.a a q
    -- the model
    have xz : (sI y6 47 0 0).1 47 18 = nI n ∧ RowN n ((sI y6 47 0 0).2.1 57) c := by
      refine ⟨?_, ?_⟩
      · show y6.1 47 18 = _
        rw [i6 47 18 rfl]; exact hxm.1
      · show RowN n (y6.2.1 57) c
        rw [a6 57 rfl]; exact hxm.2
    obtain ⟨w1, e7, g18, md, _, f7⟩ := rules_m ht xz
    have hK' := hK
    unfold spK at hK'
    rw [show anV n (spR n c).1 (spR n c).2.1 0 = 0 by unfold anV; rw [hK']; rfl] at e7
    have f67 : Fm [(47, 0), (47, 18), (47, 19), (47, 20), (47, 21), (47, 27)] [60] [] y6 w1 := (Fm.rf.sI rfl).trans (f7.mono rfl rfl rfl)
    have dM1 : DatM D w1 ∧ MoM D m 55 w1 := by
      have : DatM D y6 ∧ MoM D m 55 y6 := by
        unfold DatM MoM at *
        rw [i6 47 3 rfl, i6 47 4 rfl, i6 47 5 rfl, i6 47 6 rfl, i6 47 7 rfl, a6 49 rfl, a6 50 rfl, a6 51 rfl, a6 52 rfl, a6 53 rfl, a6 54 rfl, a6 55 rfl]
        exact ⟨hDM, hMM⟩
      exact ⟨this.1.fm f67 rfl rfl, this.2.fm f67 rfl⟩
    have e26 : gI w1 47 26 = nI k := (f67.i 47 26 rfl).trans ((i6 47 26 rfl).trans ek)
    have e59 : w1.2.1 59 = u.2.1 59 := (f67.a 59 rfl).trans (a6 59 rfl)
    have hM1 : Ml D m w1 := ⟨⟨hO, dM1.1, hMo, dM1.2⟩, _, k, hk, e26, by rw [e59]; exact hoR, by rw [e59]; exact hdr⟩
    obtain ⟨w2, e8, f8⟩ := pairs_k hM1
    obtain ⟨w3, e9, t9, g26, l9, f9⟩ := law35_m (x := 0) (y := prN D m) hk ((f8.i 47 26 rfl).trans e26) (hM1.sx f8).1 eD' (show Md (spR n c).2.2.2 w2 from ⟨(f8.i 47 27 rfl).trans (md hK).1, (md hK).2.1, by rw [f8.a 60 rfl]; exact (md hK).2.2⟩) ⟨_, hrel⟩
    have em : fX12_law y6 = some (nI (prN D' m) - nI (prN D m), w3) := by
      unfold fX12_law
      rw [nxs, e7, oBs, if_pos (show (0 : Int32) ≤ 0 by decide), e8, oBs, show gI w2 47 26 = nI k from (f8.i 47 26 rfl).trans e26, e9]
    refine ⟨_, y6, w3, ec, em, ?_⟩
    have f63 : Fm [(47, 0), (47, 18), (47, 19), (47, 20), (47, 21), (47, 27), (47, 1), (47, 26)] [60, 59, 81, 44, 46, 61, 62] [48] y6 w3 := ((f67.mono rfl rfl rfl).trans (f8.mono rfl rfl rfl)).trans (f9.mono rfl rfl rfl)
    have fa : FmR rulI rulA scrJt u w3 := FmR.trans (FmR.mono fu6 rfl rfl rfl) (f63.mono rfl rfl rfl).fmr
    have y61 : y6.1 = y6.1 := rfl
    refine Inv_rul hI fa ?_ ?_ (told_of (t6.fm f63 rfl rfl) t9 (show 2 ≤ 36 by decide)) (irul_keep hRu hq0 hv0 hne fs cn ?_ ?_ ?_ ?_ ?_ ?_ ?_ ?_)
    · rw [f63.i 1 1 rfl, f6.i 1 1 rfl, show y5.1 1 1 = y.1 1 1 from f25.i 1 1 rfl]; exact y1
    · exact (f9.i 47 18 rfl).trans ((f8.i 47 18 rfl).trans g18)
    · rw [f63.2.2.2, f6.2.2.2]; exact p5.2.2.2.1
    · rw [f63.2.2.2, f6.2.2.2]; exact p5.2.2.2.2
    · rw [f63.i 13 2 rfl, f6.i 13 2 rfl]; exact f25.i 13 2 rfl
    · rw [f63.i 14 2 rfl, f6.i 14 2 rfl]; exact f25.i 14 2 rfl
    · exact g26.trans ek.symm
    · rw [f63.a 43 rfl, f6.a 43 rfl]; exact f25.a 43 rfl
    · rw [f63.a 45 rfl, f6.a 45 rfl]; exact f25.a 45 rfl
    · intro k2 h2 e2 j hj
      have : k2 = k := (nI_eq (by omega) (by omega)).mp (e2.symm.trans ek)
      subst this
      rw [l9 j hj, f8.a 59 rfl, e59]
/-! day: acts read and done -/
def digS (n mo : Nat) (c : Nat → Nat) (s : Nat × Bool) : Nat × Bool := stp (sgO n mo c 48 10 s.1) s
def digV (n mo : Nat) (c : Nat → Nat) (s : Nat × Bool) : Nat := sgV (sgO n mo c 48 10 s.1) s.2
def dgI (n mo : Nat) (c : Nat → Nat) (s : Nat × Bool) : Nat → Nat × Bool
  | 0 => s
  | k + 1 => digS n mo c (dgI n mo c s k)
def acN (s : Nat) : Nat := if s = 1 then 2 else if s = 4 then 3 else 1
def hdS (n mo : Nat) (c : Nat → Nat) (s : Nat × Bool) : Nat × Bool := stp (amO n mo c 1 s.1) s
/-- an act at a place: the place behind, and whether it is whole -/
def acS (n mo : Nat) (c : Nat → Nat) (q : Nat) : Nat × Bool := match amO n mo c 6 q with
  | none => (q, false)
  | some s => if s = 4 then hdS n mo c (dgI n mo c (q + 1, true) 3) else dgI n mo c (q + 1, true) (acN s)
theorem acS_n {q : Nat} (h : amO n mo c 6 q = none) : acS n mo c q = (q, false) := by unfold acS; rw [h]
theorem acS_4 {q : Nat} (h : amO n mo c 6 q = some 4) : acS n mo c q = hdS n mo c (dgI n mo c (q + 1, true) 3) := by unfold acS; rw [h]; rfl
theorem acS_s {q s : Nat} (h : amO n mo c 6 q = some s) (hs : ¬ s = 4) : acS n mo c q = dgI n mo c (q + 1, true) (acN s) := by unfold acS; rw [h]; exact if_neg hs
theorem ix6n : ∀ x : Nat, x < 256 → ixO 6 x = none → x ≠ 104 ∧ x ≠ 112 ∧ x ≠ 111 ∧ x ≠ 98 ∧ x ≠ 99 := by decide +kernel
theorem ix6s : ∀ x : Nat, x < 256 → ∀ s : Nat, s < 8 → ixO 6 x = some s → s < 5 ∧ x = [104, 112, 111, 98, 99].getD s 0 := by decide +kernel
theorem am6 {q s : Nat} (ht : Tok n mo c) (h : amO n mo c 6 q = some s) : s < 5 ∧ c q = [104, 112, 111, 98, 99].getD s 0 := by
  have hq := am_p h
  have h8 := am_lt (r := 6) (by decide) h
  unfold amO at h
  rw [if_pos hq] at h
  exact ix6s (c q) (ht.2.2 q (by omega)) s h8 h
theorem nI_n {a b : Nat} (ha : a < 2 ^ 31) (hb : b < 2 ^ 31) (h : a ≠ b) : ¬ nI a = nI b := fun q => h ((nI_eq ha hb).mp q)
/-- the class passes over an act -/
theorem pass58 (ht : Tok n mo c) {q : Nat} (hq : q < min n mo) (h : Rc n mo c q true u) (x : Int32) {k : Nat} (hk : 1 ≤ k) (hk3 : k ≤ 3) : ∃ v, fX5_passAct_58 x (nI k) u = (if x = 99 then oB (fX5_heading v) fun _ u1 => some u1 else some v) ∧ Rc n mo c (dgI n mo c (q + 1, true) k).1 (dgI n mo c (q + 1, true) k).2 v ∧ Fc u v := by
  obtain ⟨v, e1, r1, f1⟩ := dem_c ht.1 h true
  unfold fX5_passAct_58 fX5_passAct_69
  rw [if_neg (nI_nle hk (by omega)), show (1 : Int32) = bI true from rfl, e1, oBs, if_neg (show ¬ bI (true && true) = 0 by decide), show gI v 2 2 = nI q from r1.2.1, show bI true = (1 : Int32) from rfl, nI_1, nxs]
  refine lpE (fun f (z : Int32) w => fX5_passAct_89 f x (nI k) z w) k (fun i => nI i) (fun i w => Rc n mo c (dgI n mo c (q + 1, true) i).1 (dgI n mo c (q + 1, true) i).2 w ∧ Fc u w) (fun o => ∃ v, o = (if x = 99 then oB (fX5_heading v) fun _ u1 => some u1 else some v) ∧ Rc n mo c (dgI n mo c (q + 1, true) k).1 (dgI n mo c (q + 1, true) k).2 v ∧ Fc u v) ?_ ?_ (by omega) 0 rfl ⟨r1.up hq, f1.sI rfl⟩
  · rintro f i w hi ⟨hr, hf⟩
    obtain ⟨v, e1, h1, f1⟩ := dig_c ht hr (k := 10) (by decide)
    left
    rw [fX5_passAct_89, if_neg (nI_ge hi (by omega)), show (10 : Int32) = nI 10 from rfl, e1, oBs, nI_1]
    exact ⟨v, ⟨h1, hf.trans f1⟩, rfl⟩
  · rintro f w ⟨hr, hf⟩
    rw [fX5_passAct_89, if_pos (nI_le (Nat.le_refl _) (by omega))]
    exact ⟨w, rfl, hr, hf⟩
theorem passAct_c (ht : Tok n mo c) {q : Nat} (hq : q < min n mo) (h : Rc n mo c q true u) : ∃ v, fX5_passAct u = some v ∧ Rc n mo c (acS n mo c q).1 (acS n mo c q).2 v ∧ Fc u v := by
  have hcq := ht.2.2 q (by omega)
  unfold fX5_passAct
  rw [peek_c ht h, oBs, pk_y hq]
  cases ho : amO n mo c 6 q with
  | none =>
    obtain ⟨n1, n2, n3, n4, n5⟩ := ix6n (c q) hcq (by unfold amO at ho; rw [if_pos hq] at ho; exact ho)
    obtain ⟨v, e1, r1, f1⟩ := dem_c ht.1 h false
    rw [if_neg (show ¬ nI (c q) = 104 from nI_n (b := 104) (by omega) (by omega) n1), if_neg (show ¬ nI (c q) = 111 from nI_n (b := 111) (by omega) (by omega) n3), if_neg (show ¬ nI (c q) = 98 from nI_n (b := 98) (by omega) (by omega) n4)]
    unfold fX5_passAct_28 fX5_passAct_58 fX5_passAct_69
    rw [if_pos rfl, if_neg (show ¬ nI (c q) = 112 from nI_n (b := 112) (by omega) (by omega) n2), if_neg (show ¬ nI (c q) = 99 from nI_n (b := 99) (by omega) (by omega) n5), if_pos (show (0 : Int32) ≤ 0 by decide), show (0 : Int32) = bI false from rfl, e1, oBs, if_pos (show bI (true && false) = bI false from rfl), acS_n ho]
    exact ⟨v, rfl, r1, f1⟩
  | some s =>
    obtain ⟨hs, ec⟩ := am6 ht ho
    rcases (show s = 0 ∨ s = 1 ∨ s = 2 ∨ s = 3 ∨ s = 4 by omega) with rfl | rfl | rfl | rfl | rfl
    · have ec' : nI (c q) = 104 := by rw [ec]; rfl
      obtain ⟨v, e1, r1, f1⟩ := pass58 ht hq h 104 (k := 1) (by decide) (by decide)
      have e3 : fX5_passAct_28 104 1 u = fX5_passAct_58 104 (nI 1) u := by
        unfold fX5_passAct_28
        rw [if_neg (by decide)]; rfl
      rw [ec', if_pos rfl, show fX5_passAct_23 104 u = fX5_passAct_28 104 1 u from rfl, e3, e1, if_neg (by decide), acS_s ho (by decide)]
      exact ⟨v, rfl, r1, f1⟩
    · have ec' : nI (c q) = 112 := by rw [ec]; rfl
      obtain ⟨v, e1, r1, f1⟩ := pass58 ht hq h 112 (k := 2) (by decide) (by decide)
      have e3 : fX5_passAct_28 112 0 u = fX5_passAct_58 112 (nI 2) u := by
        unfold fX5_passAct_28
        rw [if_pos rfl, if_pos rfl]; rfl
      rw [ec', if_neg (by decide), if_neg (by decide), if_neg (by decide), e3, e1, if_neg (by decide), acS_s ho (by decide)]
      exact ⟨v, rfl, r1, f1⟩
    · have ec' : nI (c q) = 111 := by rw [ec]; rfl
      obtain ⟨v, e1, r1, f1⟩ := pass58 ht hq h 111 (k := 1) (by decide) (by decide)
      have e3 : fX5_passAct_28 111 1 u = fX5_passAct_58 111 (nI 1) u := by
        unfold fX5_passAct_28
        rw [if_neg (by decide)]; rfl
      rw [ec', if_neg (by decide), if_pos rfl, show fX5_passAct_23 111 u = fX5_passAct_28 111 1 u from rfl, e3, e1, if_neg (by decide), acS_s ho (by decide)]
      exact ⟨v, rfl, r1, f1⟩
    · have ec' : nI (c q) = 98 := by rw [ec]; rfl
      obtain ⟨v, e1, r1, f1⟩ := pass58 ht hq h 98 (k := 1) (by decide) (by decide)
      have e3 : fX5_passAct_28 98 1 u = fX5_passAct_58 98 (nI 1) u := by
        unfold fX5_passAct_28
        rw [if_neg (by decide)]; rfl
      rw [ec', if_neg (by decide), if_neg (by decide), if_pos rfl, show fX5_passAct_23 98 u = fX5_passAct_28 98 1 u from rfl, e3, e1, if_neg (by decide), acS_s ho (by decide)]
      exact ⟨v, rfl, r1, f1⟩
    · have ec' : nI (c q) = 99 := by rw [ec]; rfl
      obtain ⟨v, e1, r1, f1⟩ := pass58 ht hq h 99 (k := 3) (by decide) (by decide)
      obtain ⟨v2, e2, r2, f2⟩ := head_c ht r1
      have e3 : fX5_passAct_28 99 0 u = fX5_passAct_58 99 (nI 3) u := by
        unfold fX5_passAct_28
        rw [if_pos rfl, if_neg (by decide), if_pos rfl]; rfl
      rw [ec', if_neg (by decide), if_neg (by decide), if_neg (by decide), e3, e1, if_pos rfl, e2, oBs, acS_4 ho]
      exact ⟨v2, rfl, r2, f1.trans f2⟩
/-- reading acts: how many whole ones, the place behind, whether all are whole -/
def dyR (n mo : Nat) (c : Nat → Nat) : Nat → Nat → Nat × Nat × Bool
  | 0, q => (0, q, true)
  | f + 1, q => if q < min n mo then (if (acS n mo c q).2 then ((dyR n mo c f (acS n mo c q).1).1 + 1, (dyR n mo c f (acS n mo c q).1).2) else (0, (acS n mo c q).1, false)) else (0, q, true)
theorem dg_ge {s : Nat × Bool} : ∀ k, s.1 ≤ (dgI n mo c s k).1
  | 0 => Nat.le_refl _
  | k + 1 => by
    have := dg_ge (s := s) k
    refine Nat.le_trans this ?_
    show _ ≤ sgP _ (dgI n mo c s k).1 _
    unfold sgP
    split <;> omega
theorem dg_ok {s : Nat × Bool} : ∀ k, (dgI n mo c s k).2 = true → (dgI n mo c s k).1 = s.1 + k
  | 0, _ => rfl
  | k + 1, h => by
    obtain ⟨a1, x, _, _, a2⟩ := sg_y h
    have := dg_ok k a1
    show (stp _ _).1 = _
    rw [a2, this]; rfl
/-- a whole act takes two signs or more -/
theorem ac_2 {q : Nat} (h : (acS n mo c q).2 = true) : q + 2 ≤ (acS n mo c q).1 := by
  cases ho : amO n mo c 6 q with
  | none => rw [acS_n ho] at h; cases h
  | some s =>
    by_cases q4 : s = 4
    · subst q4
      rw [acS_4 ho] at h ⊢
      obtain ⟨a1, x, _, _, a2⟩ := sg_y h
      have := dg_ok (n := n) (mo := mo) (c := c) 3 a1
      show _ ≤ (stp _ _).1
      rw [a2, this]; omega
    · rw [acS_s ho q4] at h ⊢
      have := dg_ok (n := n) (mo := mo) (c := c) (acN s) h
      have h1 : 1 ≤ acN s := by
        unfold acN
        by_cases h1 : s = 1
        · rw [if_pos h1]; decide
        · rw [if_neg h1, if_neg q4]; decide
      rw [this]
      show q + 2 ≤ q + 1 + acN s
      omega
theorem sgP_le {o : Option Nat} {p M : Nat} {b : Bool} (hp : p ≤ M) (h : o.isSome = true → p < M) : sgP o p b ≤ M := by
  unfold sgP
  split
  · rename_i w; rw [Bool.and_eq_true] at w; exact h w.2
  · exact hp
theorem dg_le {s : Nat × Bool} (hs : s.1 ≤ min n mo) : ∀ k, (dgI n mo c s k).1 ≤ min n mo
  | 0 => hs
  | k + 1 => sgP_le (dg_le hs k) (fun w => by
    cases ho : sgO n mo c 48 10 (dgI n mo c s k).1 with
    | none => rw [ho] at w; cases w
    | some x => exact (sg_hp ho).1)
theorem ac_le {q : Nat} (hq : q < min n mo) : (acS n mo c q).1 ≤ min n mo := by
  cases ho : amO n mo c 6 q with
  | none => rw [acS_n ho]; exact Nat.le_of_lt hq
  | some s =>
    by_cases q4 : s = 4
    · subst q4
      rw [acS_4 ho]
      refine sgP_le (dg_le (s := (q + 1, true)) hq 3) (fun w => ?_)
      cases hh : amO n mo c 1 (dgI n mo c (q + 1, true) 3).1 with
      | none => rw [hh] at w; cases w
      | some x => exact am_p hh
    · rw [acS_s ho q4]; exact dg_le (s := (q + 1, true)) hq _
theorem readDay_c (ht : Tok n 60 c) (hx : u.1 1 1 = nI n ∧ RowN n (u.2.1 15) c) : ∃ v, fX11_readDay u = some (anV n (dyR n 60 c 60 0).2.1 (dyR n 60 c 60 0).2.2 0, v) ∧ Fm [(2, 1), (2, 2), (2, 3)] [] [] u v := by
  obtain ⟨u1, e1, r1, f1⟩ := open_c (mo := 60) hx
  unfold fX11_readDay
  rw [show (60 : Int32) = nI 60 from rfl, e1, oVs]
  have fin : ∀ (q : Nat) (ok : Bool) (w : US), Rc n 60 c q ok w → Fm [(2, 1), (2, 2), (2, 3)] [] [] u w → ∃ v, fX11_readDay_41 w = some (anV n q ok 0, v) ∧ Fm [(2, 1), (2, 2), (2, 3)] [] [] u v := fun q ok w hr hf => by
    obtain ⟨v, e, f⟩ := answer_c ht.1 hr 0
    unfold fX11_readDay_41
    rw [e, oBs]
    exact ⟨v, rfl, hf.trans (f.mono rfl rfl rfl)⟩
  have key : ∀ (k i f q : Nat) (w : US), i + k = 60 → k < f → Rc n 60 c q true w → Fm [(2, 1), (2, 2), (2, 3)] [] [] u w → ∃ v, fX11_readDay_11 f (nI i) w = some (anV n (dyR n 60 c k q).2.1 (dyR n 60 c k q).2.2 0, v) ∧ Fm [(2, 1), (2, 2), (2, 3)] [] [] u v := by
    intro k
    induction k with
    | zero =>
      intro i f q w hi hf hr hfr
      obtain ⟨f, rfl⟩ : ∃ f', f = f' + 1 := ⟨f - 1, (by omega)⟩
      have : i = 60 := by omega
      subst this
      rw [fX11_readDay_11, if_pos (show (60 : Int32) ≤ nI 60 by decide)]
      exact fin q true w hr hfr
    | succ k ih =>
      intro i f q w hi hf hr hfr
      obtain ⟨f, rfl⟩ : ∃ f', f = f' + 1 := ⟨f - 1, (by omega)⟩
      rw [fX11_readDay_11, if_neg (show ¬ (60 : Int32) ≤ nI i from nI_ge (b := 60) (by omega) (by omega)), peek_c ht hr, oBs, dyR]
      by_cases hq : q < min n 60
      · have hcq := ht.2.2 q (by omega)
        obtain ⟨v, e2, r2, f2⟩ := passAct_c ht hq hr
        rw [pk_y hq, if_neg (n31 hcq), e2, oVs, if_pos hq, nI_1]
        cases hk : (acS n 60 c q).2 with
        | true =>
          rw [hk] at r2
          rw [if_pos rfl]
          exact ih (i + 1) f _ v (by omega) (by omega) r2 (hfr.trans (f2.mono rfl rfl rfl))
        | false =>
          rw [hk] at r2
          rw [if_neg (by decide)]
          obtain ⟨f, rfl⟩ : ∃ f', f = f' + 1 := ⟨f - 1, (by omega)⟩
          rw [fX11_readDay_11]
          by_cases q6 : 60 ≤ i + 1
          · rw [if_pos (show (60 : Int32) ≤ nI (i + 1) from nI_le (a := 60) q6 (by omega))]
            exact fin _ false v r2 (hfr.trans (f2.mono rfl rfl rfl))
          · rw [if_neg (show ¬ (60 : Int32) ≤ nI (i + 1) from nI_ge (b := 60) (by omega) (by omega)), peek_c ht r2, oBs, pk_f, if_pos rfl]
            exact fin _ false v r2 (hfr.trans (f2.mono rfl rfl rfl))
      · rw [pk_n hq, if_pos rfl, if_neg hq]
        exact fin q true w hr hfr
  exact key 60 0 FU 0 u1 rfl (by decide) r1 (f1.mono rfl rfl rfl)
/-! the model reads acts -/
theorem gA_me (w : US) (i : Nat) (x y : Int32) : gA (sA w i x y) i x = y := by
  show (if i = i then upd (w.2.1 i) x.toNatClampNeg y else w.2.1 i) x.toNatClampNeg = y
  rw [if_pos rfl, pk_us]
/-- what is kept of the act at a place -/
def AcV (n mo : Nat) (c : Nat → Nat) (q k : Nat) (w : US) : Prop := ∃ s, amO n mo c 6 q = some s ∧ w.2.1 65 k = nI s ∧ w.2.1 66 k = nI (digV n mo c (q + 1, true)) ∧ ((s = 1 ∨ s = 4) → w.2.1 67 k = nI (digV n mo c (dgI n mo c (q + 1, true) 1))) ∧ (s = 4 → w.2.1 68 k = nI (digV n mo c (dgI n mo c (q + 1, true) 2)) ∧ w.2.1 69 k = nI (hdV (amO n mo c 1 (dgI n mo c (q + 1, true) 3).1) (dgI n mo c (q + 1, true) 3).2))
abbrev FA (u v : US) : Prop := Fm [(47, 19), (47, 38)] [65, 66, 67, 68, 69] [] u v
/-- other places of the rows of acts -/
def Oth (k : Nat) (u v : US) : Prop := ∀ j, ¬ j = k → v.2.1 65 j = u.2.1 65 j ∧ v.2.1 66 j = u.2.1 66 j ∧ v.2.1 67 j = u.2.1 67 j ∧ v.2.1 68 j = u.2.1 68 j ∧ v.2.1 69 j = u.2.1 69 j
theorem Oth.rf {k : Nat} : Oth k u u := fun _ _ => ⟨rfl, rfl, rfl, rfl, rfl⟩
theorem Oth.trans {k : Nat} (h : Oth k u v) (h2 : Oth k v w) : Oth k u w := fun j hj => by
  obtain ⟨a1, a2, a3, a4, a5⟩ := h j hj
  obtain ⟨b1, b2, b3, b4, b5⟩ := h2 j hj
  exact ⟨b1.trans a1, b2.trans a2, b3.trans a3, b4.trans a4, b5.trans a5⟩
theorem Oth.fm {k : Nat} {a : List (Nat × Nat)} {b d : List Nat} (f : Fm a b d u v) (q : [65, 66, 67, 68, 69].all (fun x => !b.contains x) = true) : Oth k u v := by
  simp only [List.all_cons, List.all_nil, Bool.and_true, Bool.and_eq_true, Bool.not_eq_true'] at q
  obtain ⟨q1, q2, q3, q4, q5⟩ := q
  intro j _
  rw [f.a 65 q1, f.a 66 q2, f.a 67 q3, f.a 68 q4, f.a 69 q5]
  exact ⟨rfl, rfl, rfl, rfl, rfl⟩
theorem Oth.st {k i : Nat} (hk : k < 2 ^ 31) {x : Int32} : Oth k u (sA u i (nI k) x) := by
  intro j hj
  have : ∀ a, (sA u i (nI k) x).2.1 a j = u.2.1 a j := fun a => by
    rw [gA_sA]
    split
    · rename_i e; subst e; rw [nI_clamp hk]; exact pk_un hj
    · rfl
  exact ⟨this 65, this 66, this 67, this 68, this 69⟩
/-- place k of a row behind a write to place k of another -/
theorem gA_ot {i a : Nat} (h : ¬ a = i) (x y z : Int32) : gA (sA u i x y) a z = gA u a z := by
  show (if a = i then _ else u.2.1 a) z.toNatClampNeg = _
  rw [if_neg h]
theorem gA_fm {i : Nat} {a : List (Nat × Nat)} {b d : List Nat} (f : Fm a b d u v) (q : b.contains i = false) (z : Int32) : gA v i z = gA u i z := by
  show v.2.1 i _ = u.2.1 i _
  rw [f.a i q]
/-- what a read act must be, as the law of its last step -/
def RA (n mo : Nat) (c : Nat → Nat) (q k : Nat) (u : US) (o : Option (Int32 × US)) : Prop := ∃ v, o = some (bI (acS n mo c q).2, v) ∧ Rm n mo c (acS n mo c q).1 v ∧ gI v 47 38 = gI u 47 38 ∧ ((acS n mo c q).2 = true → AcV n mo c q k v) ∧ Oth k u v ∧ FA u v
theorem kl {k : Nat} (h : k < 60) {x : Option (Int32 × US)} : gd (inb (nI k) 60) x = x := gdi h (by omega)
theorem hV_y {x : Nat} (h : x < 256) : ¬ hV (some x) < 0 := nI_pos (n := x) (by omega)
theorem sgO_lt {lo k q x : Nat} (h : sgO n mo c lo k q = some x) : x < k := by
  obtain ⟨_, a, b, d⟩ := sg_hp h
  omega
theorem sgV_s {o : Option Nat} {x : Nat} (h : o = some x) : sgV o true = x := by rw [h]; rfl
theorem stp_s {o : Option Nat} {x q : Nat} (h : o = some x) : stp o (q, true) = (q + 1, true) := by rw [h]; rfl
theorem stp_n {o : Option Nat} {q : Nat} (h : o = none) : stp o (q, true) = (q, false) := by rw [h]; rfl
/-- the last number is wanting or the act is whole -/
theorem r127_m {k : Nat} (hk : k < 60) {y : Option Nat} (hy : ∀ x, y = some x → x < 256) (h : gA u 67 (nI k) = hV y) : fX12_readsAct_127 (nI k) u = some (bI y.isSome, u) := by
  unfold fX12_readsAct_127
  rw [kl hk, h]
  cases y with
  | none => rw [if_pos hV_neg]; rfl
  | some x => rw [if_neg (hV_y (hy x rfl))]; rfl
theorem readsAct_m (ht : Tok n mo c) {q k : Nat} (hq : q < min n mo) (hk : k < 60) (h : Rm n mo c q u) (hK : gI u 47 38 = nI k) : ∃ v, fX12_readsAct u = some (bI (acS n mo c q).2, v) ∧ Rm n mo c (acS n mo c q).1 v ∧ gI v 47 38 = nI (k + 1) ∧ ((acS n mo c q).2 = true → AcV n mo c q k v) ∧ Oth k u v ∧ FA u v := by
  have hk31 : k < 2 ^ 31 := by omega
  obtain ⟨v1, e1, r1, f1⟩ := takes_m ht h (j := 6) (by decide)
  unfold fX12_readsAct
  rw [show fX12_takesOf 106 u = fX12_takesOf (100 + 6) u from rfl, e1, oBs, hK, kl hk, nxs, nxs]
  have e38 : gI (sA v1 65 (nI k) (hV (amO n mo c 6 q))) 47 38 = nI k := (f1.i 47 38 rfl).trans hK
  obtain ⟨v2, hv2⟩ : ∃ v2, v2 = sI (sA v1 65 (nI k) (hV (amO n mo c 6 q))) 47 38 (gI (sA v1 65 (nI k) (hV (amO n mo c 6 q))) 47 38 + 1) := ⟨_, rfl⟩
  have k2 : gI v2 47 38 = nI (k + 1) := by rw [hv2, e38, nI_1]; rfl
  have a65 : gA v2 65 (nI k) = hV (amO n mo c 6 q) := by rw [hv2]; exact gA_me _ 65 _ _
  have o2 : Oth k u v2 := by
    rw [hv2]
    exact (Oth.fm f1 rfl).trans (show Oth k v1 (sA v1 65 (nI k) (hV (amO n mo c 6 q))) from Oth.st hk31)
  have f2 : FA u v2 := by rw [hv2]; exact ((f1.mono rfl rfl rfl).sA rfl).sI rfl
  have r2 : Rm n mo c (if (amO n mo c 6 q).isSome = true then q + 1 else q) v2 := by rw [hv2]; exact r1.fm (a := [(47, 38)]) (b := [65]) (d := []) ((Fm.rf.sA rfl).sI rfl) rfl rfl
  rw [← hv2, kl hk, a65]
  cases ho : amO n mo c 6 q with
  | none =>
    rw [ho] at r2
    rw [if_neg (show ¬ (0 : Int32) ≤ hV none by decide), acS_n ho]
    exact ⟨v2, rfl, r2, k2, fun w => (by cases w), o2, f2⟩
  | some s =>
    obtain ⟨hs, ec⟩ := am6 ht ho
    rw [ho] at r2 a65
    have r2' : Rm n mo c (q + 1) v2 := r2
    obtain ⟨v3, e3, r3, f3⟩ := num1_m ht r2'
    rw [if_pos (show (0 : Int32) ≤ hV (some s) from nI_pos' (by omega)), e3, oBs, kl hk, nxs]
    obtain ⟨v4, hv4⟩ : ∃ v4, v4 = sA v3 66 (nI k) (hV (sgO n mo c 48 10 (q + 1))) := ⟨_, rfl⟩
    have a66 : gA v4 66 (nI k) = hV (sgO n mo c 48 10 (q + 1)) := by rw [hv4]; exact gA_me _ 66 _ _
    have b65 : gA v4 65 (nI k) = nI s := by
      rw [hv4, gA_ot (by decide), gA_fm f3 rfl, a65]; rfl
    have o4 : Oth k u v4 := by rw [hv4]; exact (o2.trans (Oth.fm f3 rfl)).trans (Oth.st hk31)
    have f4 : FA u v4 := by rw [hv4]; exact (f2.trans (f3.mono rfl rfl rfl)).sA rfl
    have r4 : Rm n mo c (adv (sgO n mo c 48 10 (q + 1)) (q + 1)) v4 := by rw [hv4]; exact r3.fm (a := []) (b := [66]) (d := []) (Fm.rf.sA rfl) rfl rfl
    have k4 : gI v4 47 38 = nI (k + 1) := by rw [hv4]; exact (f3.i 47 38 rfl).trans k2
    rw [← hv4, kl hk, b65, kl hk]
    -- one number or more
    have E : (if nI s = 1 then fX12_readsAct_70 (nI k) v4 else gd (inb (nI k) 60) (if nI s = 4 then fX12_readsAct_70 (nI k) v4 else fX12_readsAct_75 (nI k) 0 v4)) = fX12_readsAct_75 (nI k) (if s = 1 ∨ s = 4 then 1 else 0) v4 := by
      rw [kl hk]
      rcases (show s = 0 ∨ s = 1 ∨ s = 2 ∨ s = 3 ∨ s = 4 by omega) with rfl | rfl | rfl | rfl | rfl <;> rfl
    rw [kl hk] at E
    rw [E]
    unfold fX12_readsAct_75
    rw [kl hk, a66]
    cases h1 : sgO n mo c 48 10 (q + 1) with
    | none =>
      rw [h1] at r4
      have r4' : Rm n mo c (q + 1) v4 := r4
      have ea : acS n mo c q = (q + 1, false) := by
        have d1 : ∀ j, dgI n mo c (q + 1, true) (j + 1) = (q + 1, false) := by
          intro j
          induction j with
          | zero => exact stp_n h1
          | succ j ih =>
            show stp _ (dgI n mo c (q + 1, true) (j + 1)) = _
            rw [ih]; exact sg_f rfl
        by_cases q4 : s = 4
        · subst q4
          rw [acS_4 ho]
          show stp _ (dgI n mo c (q + 1, true) 3) = _
          rw [d1 2]; exact sg_f rfl
        · rw [acS_s ho q4]
          unfold acN
          by_cases q1 : s = 1
          · rw [if_pos q1]; exact d1 1
          · rw [if_neg q1, if_neg q4]; exact d1 0
      rw [if_neg (show ¬ (0 : Int32) ≤ hV none by decide), ea]
      unfold fX12_readsAct_107
      obtain ⟨v5, hv5⟩ : ∃ v5, v5 = sA v4 67 (nI k) (-1) := ⟨_, rfl⟩
      have a67 : gA v5 67 (nI k) = hV none := by rw [hv5]; exact gA_me _ 67 _ _
      rw [kl hk, nxs, ← hv5, kl hk, a67, if_pos hV_neg, r127_m (y := none) hk (fun x hx => by cases hx) a67]
      refine ⟨v5, rfl, ?_, ?_, fun w => (by cases w), ?_, ?_⟩
      · rw [hv5]; exact r4'.fm (a := []) (b := [67]) (d := []) (Fm.rf.sA rfl) rfl rfl
      · rw [hv5]; exact k4
      · rw [hv5]; exact o4.trans (Oth.st hk31)
      · rw [hv5]; exact f4.sA rfl
    | some x1 =>
      have hx1 := sgO_lt h1
      rw [h1] at r4 a66
      have r4' : Rm n mo c (q + 2) v4 := r4
      have d1 : dgI n mo c (q + 1, true) 1 = (q + 2, true) := stp_s h1
      have w66 : v4.2.1 66 k = nI (digV n mo c (q + 1, true)) := by
        have : v4.2.1 66 (nI k).toNatClampNeg = nI x1 := a66
        rw [nI_clamp hk31] at this
        rw [this]
        show nI x1 = nI (sgV (sgO n mo c 48 10 (q + 1)) true)
        rw [sgV_s h1]
      have w65 : v4.2.1 65 k = nI s := by
        have : v4.2.1 65 (nI k).toNatClampNeg = nI s := b65
        rw [nI_clamp hk31] at this; exact this
      rw [if_pos (show (0 : Int32) ≤ hV (some x1) from nI_pos' (by omega))]
      by_cases q14 : s = 1 ∨ s = 4
      · rw [if_pos q14, if_neg (show ¬ (1 : Int32) = 0 by decide)]
        obtain ⟨v5, e5, r5, f5⟩ := num1_m ht r4'
        rw [e5, oBs]
        unfold fX12_readsAct_107
        obtain ⟨v6, hv6⟩ : ∃ v6, v6 = sA v5 67 (nI k) (hV (sgO n mo c 48 10 (q + 2))) := ⟨_, rfl⟩
        have a67 : gA v6 67 (nI k) = hV (sgO n mo c 48 10 (q + 2)) := by rw [hv6]; exact gA_me _ 67 _ _
        have c65 : gA v6 65 (nI k) = nI s := by rw [hv6, gA_ot (by decide), gA_fm f5 rfl, b65]
        have o6 : Oth k u v6 := by rw [hv6]; exact (o4.trans (Oth.fm f5 rfl)).trans (Oth.st hk31)
        have f6 : FA u v6 := by rw [hv6]; exact (f4.trans (f5.mono rfl rfl rfl)).sA rfl
        have r6 : Rm n mo c (adv (sgO n mo c 48 10 (q + 2)) (q + 2)) v6 := by rw [hv6]; exact r5.fm (a := []) (b := [67]) (d := []) (Fm.rf.sA rfl) rfl rfl
        have k6 : gI v6 47 38 = nI (k + 1) := by rw [hv6]; exact (f5.i 47 38 rfl).trans k4
        have y65 : v6.2.1 65 k = nI s ∧ v6.2.1 66 k = nI (digV n mo c (q + 1, true)) := by
          have g1 : v6.2.1 65 = v4.2.1 65 := by rw [hv6]; exact f5.a 65 rfl
          have g2 : v6.2.1 66 = v4.2.1 66 := by rw [hv6]; exact f5.a 66 rfl
          rw [g1, g2]; exact ⟨w65, w66⟩
        rw [kl hk, nxs, ← hv6, kl hk, a67]
        cases h2 : sgO n mo c 48 10 (q + 2) with
        | none =>
          rw [h2] at r6 a67
          have d2 : dgI n mo c (q + 1, true) 2 = (q + 2, false) := by
            show stp (sgO n mo c 48 10 (dgI n mo c (q + 1, true) 1).1) (dgI n mo c (q + 1, true) 1) = _
            rw [d1]; exact stp_n h2
          have ea : acS n mo c q = (q + 2, false) := by
            rcases q14 with rfl | rfl
            · rw [acS_s ho (by decide)]; exact d2
            · rw [acS_4 ho]
              have d3 : dgI n mo c (q + 1, true) 3 = (q + 2, false) := by
                show stp _ (dgI n mo c (q + 1, true) 2) = _
                rw [d2]; exact sg_f rfl
              show stp _ (dgI n mo c (q + 1, true) 3) = _
              rw [d3]; exact sg_f rfl
          rw [if_pos hV_neg, r127_m (y := none) hk (fun x hx => by cases hx) a67, ea]
          exact ⟨v6, rfl, r6, k6, fun w => (by cases w), o6, f6⟩
        | some x2 =>
          have hx2 := sgO_lt h2
          rw [h2] at r6 a67
          have r6' : Rm n mo c (q + 3) v6 := r6
          have d2 : dgI n mo c (q + 1, true) 2 = (q + 3, true) := by
            show stp (sgO n mo c 48 10 (dgI n mo c (q + 1, true) 1).1) (dgI n mo c (q + 1, true) 1) = _
            rw [d1]; exact stp_s h2
          have y67 : v6.2.1 67 k = nI (digV n mo c (dgI n mo c (q + 1, true) 1)) := by
            have : v6.2.1 67 (nI k).toNatClampNeg = nI x2 := a67
            rw [nI_clamp hk31] at this
            rw [this, d1]
            show nI x2 = nI (sgV (sgO n mo c 48 10 (q + 2)) true)
            rw [sgV_s h2]
          rw [if_neg (hV_y (by omega)), kl hk, c65]
          rcases q14 with rfl | rfl
          · have ea : acS n mo c q = (q + 3, true) := by rw [acS_s ho (by decide)]; exact d2
            rw [if_neg (show ¬ nI 1 = 4 by decide), r127_m (y := some x2) hk (fun x hx => by cases hx; omega) a67, ea]
            exact ⟨v6, rfl, r6', k6, fun _ => ⟨1, ho, y65.1, y65.2, fun _ => y67, fun w => absurd w (by decide)⟩, o6, f6⟩
          · rw [if_pos (show nI 4 = 4 from rfl)]
            obtain ⟨v7, e7, r7, f7⟩ := num1_m ht r6'
            rw [e7, oBs, kl hk, nxs]
            obtain ⟨v8, hv8⟩ : ∃ v8, v8 = sA v7 68 (nI k) (hV (sgO n mo c 48 10 (q + 3))) := ⟨_, rfl⟩
            have a68 : gA v8 68 (nI k) = hV (sgO n mo c 48 10 (q + 3)) := by rw [hv8]; exact gA_me _ 68 _ _
            have o8 : Oth k u v8 := by rw [hv8]; exact (o6.trans (Oth.fm f7 rfl)).trans (Oth.st hk31)
            have f8 : FA u v8 := by rw [hv8]; exact (f6.trans (f7.mono rfl rfl rfl)).sA rfl
            have r8 : Rm n mo c (adv (sgO n mo c 48 10 (q + 3)) (q + 3)) v8 := by rw [hv8]; exact r7.fm (a := []) (b := [68]) (d := []) (Fm.rf.sA rfl) rfl rfl
            have k8 : gI v8 47 38 = nI (k + 1) := by rw [hv8]; exact (f7.i 47 38 rfl).trans k6
            have z8 : v8.2.1 65 k = nI 4 ∧ v8.2.1 66 k = nI (digV n mo c (q + 1, true)) ∧ v8.2.1 67 k = nI (digV n mo c (dgI n mo c (q + 1, true) 1)) := by
              have g1 : v8.2.1 65 = v6.2.1 65 := by rw [hv8]; exact f7.a 65 rfl
              have g2 : v8.2.1 66 = v6.2.1 66 := by rw [hv8]; exact f7.a 66 rfl
              have g3 : v8.2.1 67 = v6.2.1 67 := by rw [hv8]; exact f7.a 67 rfl
              rw [g1, g2, g3]; exact ⟨y65.1, y65.2, y67⟩
            rw [← hv8, kl hk, a68]
            unfold fX12_readsAct_177
            cases h3 : sgO n mo c 48 10 (q + 3) with
            | none =>
              rw [h3] at r8
              have r8' : Rm n mo c (q + 3) v8 := r8
              have ea : acS n mo c q = (q + 3, false) := by
                rw [acS_4 ho]
                have d3 : dgI n mo c (q + 1, true) 3 = (q + 3, false) := by
                  show stp (sgO n mo c 48 10 (dgI n mo c (q + 1, true) 2).1) (dgI n mo c (q + 1, true) 2) = _
                  rw [d2]; exact stp_n h3
                show stp _ (dgI n mo c (q + 1, true) 3) = _
                rw [d3]; exact sg_f rfl
              rw [if_neg (show ¬ (0 : Int32) ≤ hV none by decide), kl hk, nxs, kl hk, gA_me, if_pos (show (-1 : Int32) < 0 by decide), ea]
              exact ⟨_, rfl, r8'.fm (a := []) (b := [69]) (d := []) (Fm.rf.sA rfl) rfl rfl, k8, fun w => (by cases w), o8.trans (Oth.st hk31), f8.sA rfl⟩
            | some x3 =>
              have hx3 := sgO_lt h3
              rw [h3] at r8 a68
              have r8' : Rm n mo c (q + 4) v8 := r8
              have d3 : dgI n mo c (q + 1, true) 3 = (q + 4, true) := by
                show stp (sgO n mo c 48 10 (dgI n mo c (q + 1, true) 2).1) (dgI n mo c (q + 1, true) 2) = _
                rw [d2]; exact stp_s h3
              have z68 : v8.2.1 68 k = nI (digV n mo c (dgI n mo c (q + 1, true) 2)) := by
                have : v8.2.1 68 (nI k).toNatClampNeg = nI x3 := a68
                rw [nI_clamp hk31] at this
                rw [this, d2]
                show nI x3 = nI (sgV (sgO n mo c 48 10 (q + 3)) true)
                rw [sgV_s h3]
              obtain ⟨v9, e9, r9, f9⟩ := takes_m ht r8' (j := 1) (by decide)
              rw [if_pos (show (0 : Int32) ≤ hV (some x3) from nI_pos' (by omega)), show fX12_takesOf 101 v8 = fX12_takesOf (100 + 1) v8 from rfl, e9, oBs, kl hk, nxs, kl hk, gA_me]
              have z9 : (sA v9 69 (nI k) (hV (amO n mo c 1 (q + 4)))).2.1 65 k = nI 4 ∧ (sA v9 69 (nI k) (hV (amO n mo c 1 (q + 4)))).2.1 66 k = nI (digV n mo c (q + 1, true)) ∧ (sA v9 69 (nI k) (hV (amO n mo c 1 (q + 4)))).2.1 67 k = nI (digV n mo c (dgI n mo c (q + 1, true) 1)) ∧ (sA v9 69 (nI k) (hV (amO n mo c 1 (q + 4)))).2.1 68 k = nI (digV n mo c (dgI n mo c (q + 1, true) 2)) := by
                have g1 : v9.2.1 65 = v8.2.1 65 := f9.a 65 rfl
                have g2 : v9.2.1 66 = v8.2.1 66 := f9.a 66 rfl
                have g3 : v9.2.1 67 = v8.2.1 67 := f9.a 67 rfl
                have g4 : v9.2.1 68 = v8.2.1 68 := f9.a 68 rfl
                show v9.2.1 65 k = _ ∧ v9.2.1 66 k = _ ∧ v9.2.1 67 k = _ ∧ v9.2.1 68 k = _
                rw [g1, g2, g3, g4]; exact ⟨z8.1, z8.2.1, z8.2.2, z68⟩
              have ea : acS n mo c q = stp (amO n mo c 1 (q + 4)) (q + 4, true) := by
                rw [acS_4 ho]
                show stp (amO n mo c 1 (dgI n mo c (q + 1, true) 3).1) (dgI n mo c (q + 1, true) 3) = _
                rw [d3]
              have f10 : FA u (sA v9 69 (nI k) (hV (amO n mo c 1 (q + 4)))) := (f8.trans (f9.mono rfl rfl rfl)).sA rfl
              have o10 : Oth k u (sA v9 69 (nI k) (hV (amO n mo c 1 (q + 4)))) := (o8.trans (Oth.fm f9 rfl)).trans (Oth.st hk31)
              have k10 : gI (sA v9 69 (nI k) (hV (amO n mo c 1 (q + 4)))) 47 38 = nI (k + 1) := (f9.i 47 38 rfl).trans k8
              cases h4 : amO n mo c 1 (q + 4) with
              | none =>
                rw [h4] at r9
                rw [h4] at f10 o10 k10
                rw [ea, h4, if_pos hV_neg]
                exact ⟨_, rfl, (show Rm n mo c (q + 4) v9 from r9).fm (a := []) (b := [69]) (d := []) (Fm.rf.sA rfl) rfl rfl, k10, fun w => (by cases w), o10, f10⟩
              | some x4 =>
                have hx4 := am_lt (r := 1) (by decide) h4
                rw [h4] at r9
                rw [h4] at f10 o10 k10 z9
                rw [ea, h4, if_neg (hV_y (by omega))]
                refine ⟨_, rfl, (show Rm n mo c (q + 5) v9 from r9).fm (a := []) (b := [69]) (d := []) (Fm.rf.sA rfl) rfl rfl, k10, fun _ => ⟨4, ho, z9.1, z9.2.1, fun _ => z9.2.2.1, fun _ => ⟨z9.2.2.2, ?_⟩⟩, o10, f10⟩
                rw [d3]
                show upd (v9.2.1 69) (nI k).toNatClampNeg (hV (some x4)) k = nI (hdV (amO n mo c 1 (q + 4)) true)
                rw [nI_clamp hk31, pk_us, h4]; rfl
      · rw [if_neg q14, if_pos rfl]
        have q4 : ¬ s = 4 := fun w => q14 (Or.inr w)
        have q1 : ¬ s = 1 := fun w => q14 (Or.inl w)
        have ea : acS n mo c q = (q + 2, true) := by
          rw [acS_s ho q4]
          unfold acN
          rw [if_neg q1, if_neg q4]; exact d1
        unfold fX12_readsAct_107
        obtain ⟨v5, hv5⟩ : ∃ v5, v5 = sA v4 67 (nI k) 0 := ⟨_, rfl⟩
        have a67 : gA v5 67 (nI k) = hV (some 0) := by rw [hv5]; exact gA_me _ 67 _ _
        have c65 : gA v5 65 (nI k) = nI s := by rw [hv5, gA_ot (by decide), b65]
        rw [kl hk, nxs, ← hv5, kl hk, a67, if_neg (show ¬ hV (some 0) < 0 by decide), kl hk, c65, if_neg (show ¬ nI s = 4 from nI_n (b := 4) (by omega) (by omega) q4), r127_m (y := some 0) hk (fun x hx => by cases hx; omega) a67, ea]
        refine ⟨v5, rfl, ?_, ?_, fun _ => ⟨s, ho, ?_, ?_, fun w => absurd w q14, fun w => absurd w q4⟩, ?_, ?_⟩
        · rw [hv5]; exact r4'.fm (a := []) (b := [67]) (d := []) (Fm.rf.sA rfl) rfl rfl
        · rw [hv5]; exact k4
        · rw [hv5]; exact w65
        · rw [hv5]; exact w66
        · rw [hv5]; exact o4.trans (Oth.st hk31)
        · rw [hv5]; exact f4.sA rfl
/-! acts done -/
theorem pass_n (ht : Tok n mo c) {q x : Nat} (hx : x < 256) (h : Rc n mo c q true u) (hn : c q ≠ x) : ∃ v, fX5_passes (nI x) u = some (0, v) ∧ Rc n mo c q true v ∧ Fc u v := by
  obtain ⟨v, e1, r1, f1⟩ := pass_c ht h (s := x) hx
  have hb : (true && htB n mo c q x) = false := by unfold htB; rw [decide_eq_false hn, Bool.and_false]; rfl
  rw [hb] at e1 r1
  exact ⟨v, e1, r1, f1⟩
theorem pass_y (ht : Tok n mo c) {q x : Nat} (hx : x < 256) (hq : q < min n mo) (h : Rc n mo c q true u) (hn : c q = x) : ∃ v, fX5_passes (nI x) u = some (1, v) ∧ Rc n mo c (q + 1) true v ∧ Fc u v := by
  obtain ⟨v, e1, r1, f1⟩ := pass_c ht h (s := x) hx
  have hb : (true && htB n mo c q x) = true := by unfold htB; rw [decide_eq_true hn, decide_eq_true hq]; rfl
  rw [hb] at e1 r1
  exact ⟨v, e1, r1, f1⟩
theorem hours_d (h : Cw D m 4 u) {k : Nat} (hk : k ≤ 60) : ∃ v, fX11_passHours (nI k) u = some (mT (goI D m k), v) ∧ Cw D (goI D m k) 4 v ∧ Fm [(4, 4)] [22, 23] [] u v := by
  unfold fX11_passHours
  refine lpE (fun f (x : Int32) w => fX11_passHours_2 (nI k) f x w) k (fun i => nI i) (fun i w => Cw D (goI D m i) 4 w ∧ Fm [(4, 4)] [22, 23] [] u w) (fun o => ∃ v, o = some (mT (goI D m k), v) ∧ Cw D (goI D m k) 4 v ∧ Fm [(4, 4)] [22, 23] [] u v) ?_ ?_ (by omega) 0 rfl ⟨h, Fm.rf⟩
  · rintro f i w hi ⟨hw, hf⟩
    obtain ⟨v, e1, h1, f1⟩ := walk_c hw
    left
    rw [fX11_passHours_2, if_neg (nI_ge hi (by omega)), e1, oVs, nI_1]
    exact ⟨v, ⟨h1, hf.trans (f1.mono rfl rfl rfl)⟩, rfl⟩
  · rintro f w ⟨hw, hf⟩
    rw [fX11_passHours_2, if_pos (nI_le (Nat.le_refl _) (by omega)), show gI w 4 4 = mT (goI D m k) from hw.gT]
    exact ⟨w, rfl, hw, hf⟩
theorem goesOn_d (h : Mw D m 55 u) {k : Nat} (hk : k ≤ 300) : ∃ v, fX12_goesOn 55 (nI k) u = some v ∧ Mw D (goI D m k) 55 v ∧ Fm [] [55] [] u v := by
  unfold fX12_goesOn
  rw [gd_t (show okA 55 20 = true from rfl)]
  refine lpE (fun f (x : Int32) w => fX12_goesOn_2 55 (nI k) f x w) k (fun i => nI i) (fun i w => Mw D (goI D m i) 55 w ∧ Fm [] [55] [] u w) (fun o => ∃ v, o = some v ∧ Mw D (goI D m k) 55 v ∧ Fm [] [55] [] u v) ?_ ?_ (by omega) 0 rfl ⟨h, Fm.rf⟩
  · rintro f i w hi ⟨hw, hf⟩
    obtain ⟨v, e1, h1, f1⟩ := hour_m hw
    left
    rw [fX12_goesOn_2, if_neg (nI_ge hi (by omega)), e1, oVs, nI_1]
    exact ⟨v, ⟨h1, hf.trans f1⟩, rfl⟩
  · rintro f w ⟨hw, hf⟩
    rw [fX12_goesOn_2, if_pos (nI_le (Nat.le_refl _) (by omega))]
    exact ⟨w, rfl, hw, hf⟩
abbrev FD (u v : US) : Prop := Fm [(2, 2), (2, 3), (4, 3), (4, 4)] [22, 23, 24] [] u v
theorem neg_b (a : Int32) : a < 0 ↔ decide (0 ≤ a) = false := by
  rw [decide_eq_false_iff_not, Int32.lt_iff_toInt_lt, Int32.le_iff_toInt_le]; omega
theorem ite_b (a : Int32) (x : US) : (if a < 0 then some ((0 : Int32), x) else some (1, x)) = some (bI (decide (0 ≤ a)), x) := by
  by_cases h : a < 0
  · rw [if_pos h, (neg_b a).mp h]; rfl
  · rw [if_neg h, decide_eq_true (n_lt.mp h)]; rfl
/-- an act that the class and the model do alike -/
def Act (D : DD) (n : Nat) (c : Nat → Nat) (q : Nat) (m : MM) (w : US) (h : Nat) : Prop := ∃ (a : Int32) (b : Bool) (m' : MM) (v : US) (h' : Nat), fX11_doAct w = some (a, v) ∧ (a < 0 ↔ b = false) ∧ Cw D m' 4 v ∧ Rc n 60 c (acS n 60 c q).1 true v ∧ FD w v ∧ mT m' = nI h' ∧ h' ≤ h + 9 ∧ ∀ (k : Nat) (y : US), k < 60 → Mw D m 55 y → AcV n 60 c q k y → ∃ z, fX12_does (nI k) y = some (bI b, z) ∧ Mw D m' 55 z ∧ Fm [] [55] [] y z
theorem gA_k {i k : Nat} (hk : k < 60) {x : Int32} (h : u.2.1 i k = x) : gA u i (nI k) = x := by
  show u.2.1 i (nI k).toNatClampNeg = x
  rw [nI_clamp (by omega)]; exact h
theorem dgV_lt {s : Nat × Bool} : digV n mo c s < 10 := by
  unfold digV sgV
  cases s.2 with
  | false => exact Nat.zero_lt_succ _
  | true =>
    rw [if_pos rfl]
    cases ho : sgO n mo c 48 10 s.1 with
    | none => exact Nat.zero_lt_succ _
    | some x => exact sgO_lt ho
/-- the class's frame from reading a sign to the act -/
theorem act_d (ht : Tok n 60 c) {q h : Nat} (hh : h < 2 ^ 30) (hq : q < min n 60) (hw : Cw D m 4 w) (hr : Rc n 60 c q true w) (hk : (acS n 60 c q).2 = true) (hT : mT m = nI h) : Act D n c q m w h := by
  have hd := hw.2.1
  have hm := hw.2.2.2.2.1
  cases ho : amO n 60 c 6 q with
  | none => rw [acS_n ho] at hk; cases hk
  | some s =>
    obtain ⟨hs, ec⟩ := am6 ht ho
    have dig : ∀ (s : Nat × Bool) (x : US), Rc n 60 c s.1 s.2 x → ∃ y, fX5_digit 10 x = some (nI (digV n 60 c s), y) ∧ Rc n 60 c (digS n 60 c s).1 (digS n 60 c s).2 y ∧ Fc x y := fun s x hx => dig_c ht hx (k := 10) (by decide)
    unfold Act fX11_doAct
    rcases (show s = 0 ∨ s = 1 ∨ s = 2 ∨ s = 3 ∨ s = 4 by omega) with rfl | rfl | rfl | rfl | rfl
    · -- hours
      have ec' : c q = 104 := ec
      obtain ⟨v1, e1, r1, f1⟩ := pass_y ht (x := 104) (by decide) hq hr ec'
      obtain ⟨v2, e2, r2, f2⟩ := dig (q + 1, true) v1 r1
      have hV := dgV_lt (n := n) (mo := 60) (c := c) (s := (q + 1, true))
      obtain ⟨v3, e3, c3, f3⟩ := hours_d ((hw.fm4 f1 rfl rfl).fm4 f2 rfl rfl) (k := digV n 60 c (q + 1, true)) (by omega)
      rw [show (104 : Int32) = nI 104 from rfl, e1, oBs, if_neg (show ¬ (1 : Int32) = 0 by decide), e2, oBs, e3, oBs]
      have hT2 := goI_T D hT (digV n 60 c (q + 1, true))
      rw [acS_s ho (by decide)] at hk ⊢
      have r2' : Rc n 60 c (dgI n 60 c (q + 1, true) 1).1 true v2 := by
        have : (digS n 60 c (q + 1, true)).2 = true := hk
        rw [this] at r2; exact r2
      refine ⟨_, true, goI D m (digV n 60 c (q + 1, true)), v3, h + digV n 60 c (q + 1, true), rfl, ⟨fun w => ?_, fun w => by cases w⟩, c3, r2'.fm f3 rfl rfl, ((f1.mono rfl rfl rfl).trans (f2.mono rfl rfl rfl)).trans (f3.mono rfl rfl rfl), hT2, (by omega), ?_⟩
      · rw [hT2] at w; exact absurd w (nI_pos (by omega))
      · rintro k y hk hy ⟨s, hs, a1, a2, a3, a4⟩
        have : s = 0 := by rw [ho] at hs; cases hs; rfl
        subst this
        obtain ⟨z, ez, hz, fz⟩ := goesOn_d hy (k := digV n 60 c (q + 1, true)) (by omega)
        unfold fX12_does
        rw [kl hk, kl hk, gA_k hk a1, if_pos (show nI 0 = 0 from rfl), gA_k hk a2, ez, oVs]
        exact ⟨z, rfl, hz, fz⟩
    · -- hang
      have ec' : c q = 112 := ec
      obtain ⟨v0, e0, r0, f0⟩ := pass_n ht (x := 104) (by decide) hr (by rw [ec']; decide)
      obtain ⟨v1, e1, r1, f1⟩ := pass_y ht (x := 112) (by decide) hq r0 ec'
      obtain ⟨v2, e2, r2, f2⟩ := dig (q + 1, true) v1 r1
      obtain ⟨v3, e3, r3, f3⟩ := dig (digS n 60 c (q + 1, true)) v2 r2
      have f03 : Fc w v3 := ((f0.trans f1).trans f2).trans f3
      obtain ⟨a, m', hA, hB, hT'⟩ := hang_a hd hm (nI (digV n 60 c (q + 1, true))) (nI (digV n 60 c (digS n 60 c (q + 1, true))))
      obtain ⟨v4, e4, c4, f4⟩ := hA v3 (hw.fm4 f03 rfl rfl)
      rw [show (104 : Int32) = nI 104 from rfl, e0, oBs, if_pos rfl, show (112 : Int32) = nI 112 from rfl, e1, oBs, if_neg (show ¬ (1 : Int32) = 0 by decide), e2, oBs, e3, oBs, e4, oBs]
      rw [acS_s ho (by decide)] at hk ⊢
      have r3' : Rc n 60 c (dgI n 60 c (q + 1, true) 2).1 true v3 := by
        have : (digS n 60 c (digS n 60 c (q + 1, true))).2 = true := hk
        rw [this] at r3; exact r3
      refine ⟨a, decide (0 ≤ a), m', v4, h, rfl, neg_b a, c4, r3'.fm f4 rfl rfl, (f03.mono rfl rfl rfl).trans (f4.mono rfl rfl rfl), hT'.trans hT, (by omega), ?_⟩
      rintro k y hk hy ⟨s, hs, a1, a2, a3, a4⟩
      have : s = 1 := by rw [ho] at hs; cases hs; rfl
      subst this
      obtain ⟨z, ez, hz, fz⟩ := hB y hy
      unfold fX12_does
      rw [kl hk, kl hk, gA_k hk a1, if_neg (show ¬ nI 1 = 0 by decide), if_pos (show nI 1 = 1 from rfl), kl hk, gA_k hk a2, gA_k hk (a3 (Or.inl rfl)), show fX12_hangs 55 (nI (digV n 60 c (q + 1, true))) (nI (digV n 60 c (dgI n 60 c (q + 1, true) 1))) y = _ from ez, oBs, ite_b]
      exact ⟨z, rfl, hz, fz⟩
    · -- takes
      have ec' : c q = 111 := ec
      obtain ⟨v0, e0, r0, f0⟩ := pass_n ht (x := 104) (by decide) hr (by rw [ec']; decide)
      obtain ⟨v9, e9, r9, f9⟩ := pass_n ht (x := 112) (by decide) r0 (by rw [ec']; decide)
      obtain ⟨v1, e1, r1, f1⟩ := pass_y ht (x := 111) (by decide) hq r9 ec'
      obtain ⟨v2, e2, r2, f2⟩ := dig (q + 1, true) v1 r1
      have f03 : Fc w v2 := ((f0.trans f9).trans f1).trans f2
      obtain ⟨a, m', hA, hB, hT'⟩ := takes_a hd hm (nI (digV n 60 c (q + 1, true)))
      obtain ⟨v4, e4, c4, f4⟩ := hA v2 (hw.fm4 f03 rfl rfl)
      rw [show (104 : Int32) = nI 104 from rfl, e0, oBs, if_pos rfl, show (112 : Int32) = nI 112 from rfl, e9, oBs, if_pos rfl, show (111 : Int32) = nI 111 from rfl, e1, oBs, if_neg (show ¬ (1 : Int32) = 0 by decide), e2, oBs, e4, oBs]
      rw [acS_s ho (by decide)] at hk ⊢
      have r3' : Rc n 60 c (dgI n 60 c (q + 1, true) 1).1 true v2 := by
        have : (digS n 60 c (q + 1, true)).2 = true := hk
        rw [this] at r2; exact r2
      refine ⟨a, decide (0 ≤ a), m', v4, h, rfl, neg_b a, c4, r3'.fm f4 rfl rfl, (f03.mono rfl rfl rfl).trans (f4.mono rfl rfl rfl), hT'.trans hT, (by omega), ?_⟩
      rintro k y hk hy ⟨s, hs, a1, a2, a3, a4⟩
      have : s = 2 := by rw [ho] at hs; cases hs; rfl
      subst this
      obtain ⟨z, ez, hz, fz⟩ := hB y hy
      unfold fX12_does
      rw [kl hk, kl hk, gA_k hk a1, if_neg (show ¬ nI 2 = 0 by decide), if_neg (show ¬ nI 2 = 1 by decide), if_pos (show nI 2 = 2 from rfl), gA_k hk a2, ez, oBs, ite_b]
      exact ⟨z, rfl, hz, fz⟩
    · -- ball
      have ec' : c q = 98 := ec
      obtain ⟨v0, e0, r0, f0⟩ := pass_n ht (x := 104) (by decide) hr (by rw [ec']; decide)
      obtain ⟨v9, e9, r9, f9⟩ := pass_n ht (x := 112) (by decide) r0 (by rw [ec']; decide)
      obtain ⟨v8, e8, r8, f8⟩ := pass_n ht (x := 111) (by decide) r9 (by rw [ec']; decide)
      obtain ⟨v1, e1, r1, f1⟩ := pass_y ht (x := 98) (by decide) hq r8 ec'
      obtain ⟨v2, e2, r2, f2⟩ := dig (q + 1, true) v1 r1
      have f03 : Fc w v2 := (((f0.trans f9).trans f8).trans f1).trans f2
      obtain ⟨a, m', hA, hB, hT'⟩ := ball_a hd hm (nI (digV n 60 c (q + 1, true)))
      obtain ⟨v4, e4, c4, f4⟩ := hA v2 (hw.fm4 f03 rfl rfl)
      rw [show (104 : Int32) = nI 104 from rfl, e0, oBs, if_pos rfl, show (112 : Int32) = nI 112 from rfl, e9, oBs, if_pos rfl, show (111 : Int32) = nI 111 from rfl, e8, oBs, if_pos rfl, show (98 : Int32) = nI 98 from rfl, e1, oBs, if_neg (show ¬ (1 : Int32) = 0 by decide), e2, oBs, e4, oBs]
      rw [acS_s ho (by decide)] at hk ⊢
      have r3' : Rc n 60 c (dgI n 60 c (q + 1, true) 1).1 true v2 := by
        have : (digS n 60 c (q + 1, true)).2 = true := hk
        rw [this] at r2; exact r2
      refine ⟨a, decide (0 ≤ a), m', v4, h, rfl, neg_b a, c4, r3'.fm f4 rfl rfl, (f03.mono rfl rfl rfl).trans (f4.mono rfl rfl rfl), hT'.trans hT, (by omega), ?_⟩
      rintro k y hk hy ⟨s, hs, a1, a2, a3, a4⟩
      have : s = 3 := by rw [ho] at hs; cases hs; rfl
      subst this
      obtain ⟨z, ez, hz, fz⟩ := hB y hy
      unfold fX12_does
      rw [kl hk, kl hk, gA_k hk a1, if_neg (show ¬ nI 3 = 0 by decide), if_neg (show ¬ nI 3 = 1 by decide), if_neg (show ¬ nI 3 = 2 by decide), if_pos (show nI 3 = 3 from rfl), gA_k hk a2, ez, oBs, ite_b]
      exact ⟨z, rfl, hz, fz⟩
    · -- carry
      have ec' : c q = 99 := ec
      obtain ⟨v0, e0, r0, f0⟩ := pass_n ht (x := 104) (by decide) hr (by rw [ec']; decide)
      obtain ⟨v9, e9, r9, f9⟩ := pass_n ht (x := 112) (by decide) r0 (by rw [ec']; decide)
      obtain ⟨v8, e8, r8, f8⟩ := pass_n ht (x := 111) (by decide) r9 (by rw [ec']; decide)
      obtain ⟨v7, e7, r7, f7⟩ := pass_n ht (x := 98) (by decide) r8 (by rw [ec']; decide)
      obtain ⟨v1, e1, r1, f1⟩ := pass_y ht (x := 99) (by decide) hq r7 ec'
      obtain ⟨v2, e2, r2, f2⟩ := dig (q + 1, true) v1 r1
      obtain ⟨v3, e3, r3, f3⟩ := dig (dgI n 60 c (q + 1, true) 1) v2 r2
      obtain ⟨v4, e4, r4, f4⟩ := dig (dgI n 60 c (q + 1, true) 2) v3 r3
      have r4' : Rc n 60 c (dgI n 60 c (q + 1, true) 3).1 (dgI n 60 c (q + 1, true) 3).2 v4 := r4
      obtain ⟨v5, e5, r5, f5⟩ := head_c ht r4'
      have f05 : Fc w v5 := (((((((f0.trans f9).trans f8).trans f7).trans f1).trans f2).trans f3).trans f4).trans f5
      have hw5 := hw.fm4 f05 rfl rfl
      rw [show (104 : Int32) = nI 104 from rfl, e0, oBs, if_pos rfl, show (112 : Int32) = nI 112 from rfl, e9, oBs, if_pos rfl, show (111 : Int32) = nI 111 from rfl, e8, oBs, if_pos rfl, show (98 : Int32) = nI 98 from rfl, e7, oBs, if_pos rfl, show (99 : Int32) = nI 99 from rfl, e1, oBs, if_neg (show ¬ (1 : Int32) = 0 by decide)]
      unfold fX11_carryAsTold
      rw [e2, oBs, e3, oBs, e4, oBs, e5, oBs, hw5.xR, hw5.xC]
      rw [acS_4 ho] at hk ⊢
      have r5' : Rc n 60 c (hdS n 60 c (dgI n 60 c (q + 1, true) 3)).1 true v5 := by
        have : sgK (amO n 60 c 1 (dgI n 60 c (q + 1, true) 3).1) (dgI n 60 c (q + 1, true) 3).2 = true := hk
        rw [this] at r5; exact r5
      have b := hd.1
      have b1 := b.2.1
      have b2 := b.2.2.2.1
      have l2 := dgV_lt (n := n) (mo := 60) (c := c) (s := dgI n 60 c (q + 1, true) 1)
      have l3 := dgV_lt (n := n) (mo := 60) (c := c) (s := dgI n 60 c (q + 1, true) 2)
      have no : dR D ≤ digV n 60 c (dgI n 60 c (q + 1, true) 1) ∨ dC D ≤ digV n 60 c (dgI n 60 c (q + 1, true) 2) → ∀ (k : Nat) (y : US), k < 60 → Mw D m 55 y → AcV n 60 c q k y → ∃ z, fX12_does (nI k) y = some (bI false, z) ∧ Mw D m 55 z ∧ Fm [] [55] [] y z := by
        rintro hno k y hk hy ⟨s, hs, a1, a2, a3, a4⟩
        have : s = 4 := by rw [ho] at hs; cases hs; rfl
        subst this
        unfold fX12_does fX12_does_141 fX12_does_142
        rw [kl hk, kl hk, gA_k hk a1, if_neg (show ¬ nI 4 = 0 by decide), if_neg (show ¬ nI 4 = 1 by decide), if_neg (show ¬ nI 4 = 2 by decide), if_neg (show ¬ nI 4 = 3 by decide), kl hk, gA_k hk (a3 (Or.inr rfl)), hy.xR, if_pos rfl]
        by_cases h1 : dR D ≤ digV n 60 c (dgI n 60 c (q + 1, true) 1)
        · rw [if_pos (nI_le h1 (by omega))]
          exact ⟨y, rfl, hy, Fm.rf⟩
        · rw [if_neg (nI_ge (show digV n 60 c (dgI n 60 c (q + 1, true) 1) < dR D by omega) (by omega)), kl hk, gA_k hk (a4 rfl).1, hy.xC, if_pos (nI_le (hno.resolve_left h1) (by omega))]
          exact ⟨y, rfl, hy, Fm.rf⟩
      by_cases h1 : dR D ≤ digV n 60 c (dgI n 60 c (q + 1, true) 1)
      · rw [if_pos (nI_le h1 (by omega)), oBs]
        exact ⟨-1, false, m, v5, h, rfl, ⟨fun _ => rfl, fun _ => by decide⟩, hw5, r5', f05.mono rfl rfl rfl, hT, (by omega), no (Or.inl h1)⟩
      · rw [if_neg (nI_ge (show digV n 60 c (dgI n 60 c (q + 1, true) 1) < dR D by omega) (by omega))]
        by_cases h2 : dC D ≤ digV n 60 c (dgI n 60 c (q + 1, true) 2)
        · rw [if_neg (nI_nlt h2 (by omega)), oBs]
          exact ⟨-1, false, m, v5, h, rfl, ⟨fun _ => rfl, fun _ => by decide⟩, hw5, r5', f05.mono rfl rfl rfl, hT, (by omega), no (Or.inr h2)⟩
        · obtain ⟨a, m', hA, hB, hT'⟩ := carry_a hd hm (nI (digV n 60 c (q + 1, true))) (nI (digV n 60 c (dgI n 60 c (q + 1, true) 1) * dC D + digV n 60 c (dgI n 60 c (q + 1, true) 2))) (nI (hdV (amO n 60 c 1 (dgI n 60 c (q + 1, true) 3).1) (dgI n 60 c (q + 1, true) 3).2))
          obtain ⟨v6, e6, c6, f6⟩ := hA v5 hw5
          rw [if_pos (nI_lt (show digV n 60 c (dgI n 60 c (q + 1, true) 2) < dC D by omega) (by omega)), pk_mul, nI_add, e6, oBs, oBs]
          refine ⟨a, decide (0 ≤ a), m', v6, h, rfl, neg_b a, c6, r5'.fm f6 rfl rfl, (f05.mono rfl rfl rfl).trans (f6.mono rfl rfl rfl), hT'.trans hT, (by omega), ?_⟩
          rintro k y hk hy ⟨s, hs, a1, a2, a3, a4⟩
          have : s = 4 := by rw [ho] at hs; cases hs; rfl
          subst this
          obtain ⟨z, ez, hz, fz⟩ := hB y hy
          unfold fX12_does fX12_does_141 fX12_does_142
          rw [kl hk, kl hk, gA_k hk a1, if_neg (show ¬ nI 4 = 0 by decide), if_neg (show ¬ nI 4 = 1 by decide), if_neg (show ¬ nI 4 = 2 by decide), if_neg (show ¬ nI 4 = 3 by decide), kl hk, gA_k hk (a3 (Or.inr rfl)), hy.xR, if_neg (nI_ge (show digV n 60 c (dgI n 60 c (q + 1, true) 1) < dR D by omega) (by omega)), kl hk, gA_k hk (a4 rfl).1, hy.xC, if_neg (nI_ge (show digV n 60 c (dgI n 60 c (q + 1, true) 2) < dC D by omega) (by omega)), if_neg (show ¬ (1 : Int32) = 0 by decide), kl hk, kl hk, kl hk, gA_k hk a2, gA_k hk (a4 rfl).2, pk_mul, nI_add, Nat.mul_comm (dC D), ez, oBs, ite_b]
          exact ⟨z, rfl, hz, fz⟩
/-! day: the loops -/
/-- acts kept by the model from place i on -/
def Sto (n : Nat) (c : Nat → Nat) : Nat → Nat → Nat → US → Prop
  | 0, _, _, _ => True
  | k + 1, q, i, y => q < min n 60 → (acS n 60 c q).2 = true → AcV n 60 c q i y ∧ Sto n c k (acS n 60 c q).1 (i + 1) y
theorem AcV.cg {q i : Nat} (h : AcV n mo c q i u) (h2 : v.2.1 65 i = u.2.1 65 i ∧ v.2.1 66 i = u.2.1 66 i ∧ v.2.1 67 i = u.2.1 67 i ∧ v.2.1 68 i = u.2.1 68 i ∧ v.2.1 69 i = u.2.1 69 i) : AcV n mo c q i v := by
  obtain ⟨s, a0, a1, a2, a3, a4⟩ := h
  obtain ⟨b1, b2, b3, b4, b5⟩ := h2
  exact ⟨s, a0, b1.trans a1, b2.trans a2, fun w => b3.trans (a3 w), fun w => ⟨b4.trans (a4 w).1, b5.trans (a4 w).2⟩⟩
theorem Sto.fm {a : List (Nat × Nat)} {b d : List Nat} (f : Fm a b d u v) (q0 : [65, 66, 67, 68, 69].all (fun x => !b.contains x) = true) : ∀ k q i, Sto n c k q i u → Sto n c k q i v
  | 0, _, _, _ => trivial
  | k + 1, q, i, h => fun h1 h2 => by
    obtain ⟨a1, a2⟩ := h h1 h2
    exact ⟨a1.cg (Oth.fm (k := i + 1) f q0 i (by omega)), Sto.fm f q0 k _ _ a2⟩
theorem dy_k : ∀ k q, (dyR n mo c k q).1 ≤ k
  | 0, _ => Nat.le_refl _
  | k + 1, q => by
    rw [dyR]
    by_cases w1 : q < min n mo
    · rw [if_pos w1]
      by_cases w2 : (acS n mo c q).2 = true
      · rw [if_pos w2]; exact Nat.succ_le_succ (dy_k k _)
      · rw [if_neg w2]; exact Nat.zero_le _
    · rw [if_neg w1]; exact Nat.zero_le _
/-- each act takes two signs -/
theorem dy_2 : ∀ k q, q ≤ min n mo → q + 2 * (dyR n mo c k q).1 ≤ min n mo
  | 0, _, h => h
  | k + 1, q, h => by
    rw [dyR]
    by_cases w1 : q < min n mo
    · rw [if_pos w1]
      by_cases w2 : (acS n mo c q).2 = true
      · rw [if_pos w2]
        have h1 := ac_2 w2
        have h2 := dy_2 k _ (ac_le (c := c) w1)
        show q + 2 * ((dyR n mo c k (acS n mo c q).1).1 + 1) ≤ _
        omega
      · rw [if_neg w2]; exact h
    · rw [if_neg w1]; exact h
theorem live_d (ht : Tok n 60 c) : ∀ (k i f q h : Nat) (m : MM) (w : US), i + k = 60 → k < f → h + 9 * k < 2 ^ 30 → q ≤ min n 60 → Rc n 60 c q true w → Cw D m 4 w → (dyR n 60 c k q).2.2 = true → (dyR n 60 c k q).2.1 = n → mT m = nI h → ∃ (dn : Nat) (rf : Bool) (m' : MM) (v : US) (h' : Nat), fX11_liveDay_26 f (nI i) 0 (nI i) w = fX11_liveDay_78 (nI dn) (bI rf) v ∧ Cw D m' 4 v ∧ FD w v ∧ mT m' = nI h' ∧ h' ≤ h + 9 * (dyR n 60 c k q).1 ∧ dn ≤ i + (dyR n 60 c k q).1 ∧ rf = decide (dn < i + (dyR n 60 c k q).1) ∧ ∀ (y : US) (g : Nat), Mw D m 55 y → gI y 47 38 = nI (i + (dyR n 60 c k q).1) → Sto n c k q i y → k < g → ∃ z, fX12_day_64 g (nI i) y = fX12_day_88 (nI dn) z ∧ Mw D m' 55 z ∧ Fm [] [55] [] y z := by
  intro k
  induction k with
  | zero =>
    intro i f q h m w hi hf hh hq hr hw h1 h2 hT
    obtain ⟨f, rfl⟩ : ∃ f', f = f' + 1 := ⟨f - 1, (by omega)⟩
    have : i = 60 := by omega
    subst this
    refine ⟨60, false, m, w, h, ?_, hw, Fm.rf, hT, (by omega), Nat.le_refl _, (decide_eq_false (Nat.lt_irrefl _)).symm, fun y g hy hk _ hg => ?_⟩
    · rw [fX11_liveDay_26, if_pos (show (60 : Int32) ≤ nI 60 by decide)]; rfl
    · obtain ⟨g, rfl⟩ : ∃ g', g = g' + 1 := ⟨g - 1, (by omega)⟩
      rw [fX12_day_64, hk, if_pos (show nI (60 + (dyR n 60 c 0 q).1) ≤ nI 60 from nI_le (Nat.le_refl 60) (by omega))]
      exact ⟨y, rfl, hy, Fm.rf⟩
  | succ k ih =>
    intro i f q h m w hi hf hh hq hr hw h1 h2 hT
    obtain ⟨f, rfl⟩ : ∃ f', f = f' + 1 := ⟨f - 1, (by omega)⟩
    rw [fX11_liveDay_26, if_neg (show ¬ (60 : Int32) ≤ nI i from nI_ge (b := 60) (by omega) (by omega)), if_pos rfl, peek_c ht hr, oBs]
    rw [dyR] at h1 h2 ⊢
    by_cases hqn : q < min n 60
    · have hcq := ht.2.2 q (by omega)
      rw [if_pos hqn] at h1 h2 ⊢
      rw [pk_y hqn, if_neg (n31 hcq)]
      cases hk : (acS n 60 c q).2 with
      | false => rw [hk, if_neg (by decide)] at h1; cases h1
      | true =>
        rw [hk, if_pos rfl] at h1 h2
        rw [if_pos rfl]
        obtain ⟨a, b, m1, v1, hx, e1, hab, c1, r1, f1, T1, l1, M1⟩ := act_d ht (h := h) (by omega) hqn hw hr hk hT
        rw [e1, oBs]
        unfold fX11_liveDay_59
        cases b with
        | true =>
          have ha : ¬ a < 0 := fun w => by have := hab.mp w; cases this
          obtain ⟨dn, rf, m2, v2, h2', e2, c2, f2, T2, l2, d2, rr2, M2⟩ := ih (i + 1) f (acS n 60 c q).1 hx m1 v1 (by omega) (by omega) (by omega) (ac_le hqn) r1 c1 h1 h2 T1
          rw [if_pos (n_lt.mp ha), if_pos rfl, nI_1, e2]
          have es : i + 1 + (dyR n 60 c k (acS n 60 c q).1).1 = i + ((dyR n 60 c k (acS n 60 c q).1).1 + 1) := by omega
          rw [es] at d2 rr2 M2
          refine ⟨dn, rf, m2, v2, h2', rfl, c2, f1.trans f2, T2, (by omega), d2, rr2, fun y g hy hk38 hS hg => ?_⟩
          obtain ⟨g, rfl⟩ : ∃ g', g = g' + 1 := ⟨g - 1, (by omega)⟩
          obtain ⟨s1, s2⟩ := hS hqn hk
          obtain ⟨z, ez, hz, fz⟩ := M1 i y (by omega) hy s1
          obtain ⟨z2, ez2, hz2, fz2⟩ := M2 z g hz ((fz.i 47 38 rfl).trans hk38) (Sto.fm fz rfl _ _ _ s2) (by omega)
          have hl : i < i + ((dyR n 60 c k (acS n 60 c q).1).1 + 1) := by omega
          have hb : i + ((dyR n 60 c k (acS n 60 c q).1).1 + 1) < 2 ^ 31 ∨ True := Or.inr trivial
          rw [fX12_day_64, hk38, if_neg (nI_ge hl ?_), ez, oBs, if_neg (show ¬ bI true = 0 by decide), nI_1, ez2]
          · exact ⟨z2, rfl, hz2, fz.trans fz2⟩
          · have : ∀ k q, (dyR n 60 c k q).1 ≤ k := dy_k
            have := this k (acS n 60 c q).1
            omega
        | false =>
          have ha : a < 0 := hab.mpr rfl
          have hK : ∀ k q, (dyR n 60 c k q).1 ≤ k := dy_k
          have hKk := hK k (acS n 60 c q).1
          obtain ⟨f, rfl⟩ : ∃ f', f = f' + 1 := ⟨f - 1, (by omega)⟩
          rw [if_neg (fun w => absurd ha (n_lt.mpr w)), if_neg (show ¬ (1 : Int32) = 0 by decide), fX11_liveDay_26, ad0]
          refine ⟨i, true, m1, v1, hx, ?_, c1, f1, T1, (by omega), (by omega), (decide_eq_true (by omega)).symm, fun y g hy hk38 hS hg => ?_⟩
          · rw [nI_1]
            by_cases q6 : 60 ≤ i + 1
            · rw [if_pos (show (60 : Int32) ≤ nI (i + 1) from nI_le (a := 60) q6 (by omega))]; rfl
            · rw [if_neg (show ¬ (60 : Int32) ≤ nI (i + 1) from nI_ge (b := 60) (by omega) (by omega)), if_neg (show ¬ (1 : Int32) = 0 by decide)]; rfl
          · obtain ⟨g, rfl⟩ : ∃ g', g = g' + 1 := ⟨g - 1, (by omega)⟩
            obtain ⟨s1, s2⟩ := hS hqn hk
            obtain ⟨z, ez, hz, fz⟩ := M1 i y (by omega) hy s1
            rw [fX12_day_64, hk38, if_neg (nI_ge (show i < i + ((dyR n 60 c k (acS n 60 c q).1).1 + 1) by omega) (by omega)), ez, oBs, if_pos (show bI false = 0 from rfl)]
            exact ⟨z, rfl, hz, fz⟩
    · rw [if_neg hqn] at h1 h2 ⊢
      rw [pk_n hqn, if_pos rfl]
      refine ⟨i, false, m, w, h, rfl, hw, Fm.rf, hT, (by omega), Nat.le_refl _, (decide_eq_false (Nat.lt_irrefl _)).symm, fun y g hy hk38 hS hg => ?_⟩
      obtain ⟨g, rfl⟩ : ∃ g', g = g' + 1 := ⟨g - 1, (by omega)⟩
      rw [fX12_day_64, hk38, if_pos (show nI (i + 0) ≤ nI i from nI_le (Nat.le_refl i) (by omega))]
      exact ⟨y, rfl, hy, Fm.rf⟩
/-- the model reads all acts -/
theorem reads_d (ht : Tok n 60 c) : ∀ (k i g q : Nat) (u : US), i + k = 60 → k < g → 2 * i ≤ q → Rm n 60 c q u → gI u 47 38 = nI i → ∃ v, fX12_day_19 g (nI n) 1 u = fX12_day_42 (nI n) (bI (dyR n 60 c k q).2.2) v ∧ Rm n 60 c (dyR n 60 c k q).2.1 v ∧ ((dyR n 60 c k q).2.2 = true → gI v 47 38 = nI (i + (dyR n 60 c k q).1) ∧ Sto n c k q i v) ∧ (∀ j, j < i → v.2.1 65 j = u.2.1 65 j ∧ v.2.1 66 j = u.2.1 66 j ∧ v.2.1 67 j = u.2.1 67 j ∧ v.2.1 68 j = u.2.1 68 j ∧ v.2.1 69 j = u.2.1 69 j) ∧ FA u v := by
  intro k
  induction k with
  | zero =>
    intro i g q u hi hg h2 hr hk
    have := hr.2.2
    omega
  | succ k ih =>
    intro i g q u hi hg h2 hr hk
    obtain ⟨g, rfl⟩ : ∃ g', g = g' + 1 := ⟨g - 1, (by omega)⟩
    have hle := hr.2.2
    have hn := ht.1
    rw [fX12_day_19, if_neg (show ¬ (1 : Int32) = 0 by decide), show gI u 47 20 = nI (min n 60) from hr.1.2, show gI u 47 19 = nI q from hr.2.1, dyR]
    by_cases hqn : q < min n 60
    · obtain ⟨v1, e1, r1, k1, a1, o1, f1⟩ := readsAct_m ht hqn (k := i) (by omega) hr hk
      rw [if_neg (nI_ge hqn (by omega)), e1, oBs, if_pos hqn]
      cases hb : (acS n 60 c q).2 with
      | true =>
        obtain ⟨v2, e2, r2, s2, o2, f2⟩ := ih (i + 1) g (acS n 60 c q).1 v1 (by omega) (by omega) (by have := ac_2 hb; omega) r1 k1
        rw [show bI true = 1 from rfl, e2, if_pos rfl]
        refine ⟨v2, rfl, r2, fun w => ⟨?_, fun _ _ => ⟨(a1 hb).cg (o2 i (by omega)), (s2 w).2⟩⟩, fun j hj => ?_, f1.trans f2⟩
        · rw [(s2 w).1]; congr 1; omega
        · obtain ⟨b1, b2, b3, b4, b5⟩ := o1 j (by omega)
          obtain ⟨d1, d2, d3, d4, d5⟩ := o2 j (by omega)
          exact ⟨d1.trans b1, d2.trans b2, d3.trans b3, d4.trans b4, d5.trans b5⟩
      | false =>
        obtain ⟨g, rfl⟩ : ∃ g', g = g' + 1 := ⟨g - 1, (by omega)⟩
        rw [if_neg (by decide), fX12_day_19, if_pos (show bI false = 0 from rfl)]
        exact ⟨v1, rfl, r1, fun w => (by cases w), fun j hj => o1 j (by omega), f1⟩
    · rw [if_pos (nI_le (by omega) (by omega)), if_neg hqn]
      exact ⟨u, rfl, hr, fun _ => ⟨hk, fun w => absurd w hqn⟩, fun _ _ => ⟨rfl, rfl, rfl, rfl, rfl⟩, Fm.rf⟩
theorem fin_day {n : Nat} (hW : Wd D m u) (hR : Rst n D u) (f : Fm ((1, 1) :: (47, 18) :: scrIa) scrAa scrJt u v) (x1 : v.1 1 1 = 0) (x2 : v.1 47 18 = 0) (hm : MoOK D m') (hc : MoC D m' 4 v) (hM : MoM D m' 55 v) (hp : IPast (dR D) (dC D) (dT D) (dP D) (dM D) (v.1 7 3) (v.1 47 30) (v.2.1 31) (v.2.1 63)) (hh : ∃ h : Nat, h ≤ 300 * (n + 1) ∧ v.1 4 4 = nI h) (hh2 : ∀ j, j < 15 → ∃ h : Nat, h ≤ 300 * (n + 1) ∧ v.2.1 31 (26 * j + 25) = nI h) (ht : ITold (v.1 8 1) (v.1 47 1) (v.2.2.1 33) (v.2.2.1 48)) : Inv (n + 1) v := by
  obtain ⟨g1, g2, ⟨⟨c, kb, g3, g4⟩, g5⟩, g6, g7⟩ := hR
  refine Inv_fr (D := D) (m := m') ⟨hW.1, hW.2.1.fm f rfl rfl, hW.2.2.1.fm f rfl rfl, hW.2.2.2.1.fm f rfl rfl, hm, hc, hM⟩ ⟨?_, hp, ⟨?_, hh, hh2, ?_⟩, ht, ?_⟩
  · exact ⟨0, Nat.zero_le _, x1, x2, fun j hj => absurd hj (Nat.not_lt_zero j)⟩
  · rw [f.i 7 2 rfl, f.i 47 8 rfl, f.a 32 rfl, f.a 82 rfl, f.a 83 rfl, f.a 84 rfl]; exact ⟨c, kb, (by omega), g4⟩
  · rw [f.a 32 rfl]
    intro j hj
    obtain ⟨h, h1, h2⟩ := g5.2.2 j hj
    exact ⟨h, (by omega), h2⟩
  · rw [f.i 11 3 rfl, f.i 47 43 rfl, f.a 36 rfl, f.a 37 rfl, f.a 38 rfl, f.a 74 rfl, f.a 75 rfl, f.a 76 rfl]; exact g7
def dyL (rf : Bool) (t : Int32) : List Int64 := [(bI rf).toInt64, t.toInt64]
theorem st_16 : St_16 Inv := by
  intro kk u hkk hI
  obtain ⟨n, c, hn, hc, hxc, hxm⟩ := tx_of hI
  have ht : Tok n 60 c := ⟨hn, by decide, hc⟩
  obtain ⟨u1, e1, f1⟩ := readDay_c ht hxc
  -- the model reads
  have rd : ∀ w4 : US, w4.1 47 18 = nI n → RowN n (w4.2.1 57) c → ∃ v, fX12_day w4 = fX12_day_42 (nI n) (bI (dyR n 60 c 60 0).2.2) v ∧ Rm n 60 c (dyR n 60 c 60 0).2.1 v ∧ ((dyR n 60 c 60 0).2.2 = true → gI v 47 38 = nI (0 + (dyR n 60 c 60 0).1) ∧ Sto n c 60 0 0 v) ∧ gI v 47 18 = 0 ∧ Fm [(47, 0), (47, 18), (47, 19), (47, 20), (47, 21), (47, 38)] [65, 66, 67, 68, 69] [] w4 v := by
    intro w4 h18 h57
    obtain ⟨w1, x1, r1, a1, b1, g1⟩ := begins_m (u := sI w4 47 0 0) (mo := 60) ht ⟨h18, h57⟩
    obtain ⟨w2, hw2⟩ : ∃ w2, w2 = sI w1 47 38 0 := ⟨_, rfl⟩
    have r2 : Rm n 60 c 0 w2 := by rw [hw2]; exact r1.fm (a := [(47, 38)]) (b := []) (d := []) (Fm.rf.sI rfl) rfl rfl
    obtain ⟨v, e2, r3, s3, _, g3⟩ := reads_d ht 60 0 FU 0 w2 rfl (by decide) (by omega) r2 (by rw [hw2]; rfl)
    refine ⟨v, ?_, r3, s3, ?_, ?_⟩
    · unfold fX12_day
      rw [nxs, show (60 : Int32) = nI 60 from rfl, x1, oBs, nxs, ← hw2, e2]
    · rw [show gI v 47 18 = gI w2 47 18 from g3.i 47 18 rfl, hw2]; exact a1
    · have g2 : Fm [(47, 0), (47, 18), (47, 19), (47, 20), (47, 21), (47, 38)] [65, 66, 67, 68, 69] [] w4 w2 := by
        rw [hw2]; exact ((Fm.rf.sI rfl).trans (g1.mono rfl rfl rfl)).sI rfl
      exact g2.trans (g3.mono rfl rfl rfl)
  cases hs : ((dyR n 60 c 60 0).2.2 && decide ((dyR n 60 c 60 0).2.1 = n)) with
  | false =>
    have av : ∀ x, anV n (dyR n 60 c 60 0).2.1 (dyR n 60 c 60 0).2.2 x = -1 - nI (dyR n 60 c 60 0).2.1 := fun x => by unfold anV; rw [hs]; rfl
    obtain ⟨w1, x1, r1, _, g18, g1⟩ := rd (sI u1 1 1 0) ((f1.i 47 18 rfl).trans hxm.1) (by rw [show (sI u1 1 1 0).2.1 57 = u1.2.1 57 from rfl, f1.a 57 rfl]; exact hxm.2)
    have hle : (dyR n 60 c 60 0).2.1 ≤ 80 := by have := r1.2.2; omega
    have ec : fX11_day u = some (-1 - nI (dyR n 60 c 60 0).2.1, sI u1 1 1 0) := by
      unfold fX11_day fX11_day_14
      rw [e1, oBs, av, if_neg (neg_n0 _ hle)]; rfl
    have em : fX12_day (sI u1 1 1 0) = some (-1 - nI (dyR n 60 c 60 0).2.1, w1) := by
      rw [x1]
      unfold fX12_day_42
      rw [show (60 : Int32) = nI 60 from rfl, fault_m ht r1, oBs, av, if_neg (neg_nle _ hle)]
    refine ⟨_, _, w1, ec, em, Inv_gone hI (((f1.mono rfl rfl rfl).sI rfl).trans (g1.mono rfl rfl rfl)) ((g1.i 1 1 rfl).trans rfl) g18⟩
  | true =>
    have av : ∀ x, anV n (dyR n 60 c 60 0).2.1 (dyR n 60 c 60 0).2.2 x = x := fun x => by unfold anV; rw [hs]; rfl
    rw [Bool.and_eq_true] at hs
    have hs1 := hs.1
    have hs2 := of_decide_eq_true hs.2
    obtain ⟨D, m, hW, hR⟩ := Inv_to hI
    have hd := hW.1.1
    have hR' := hR
    obtain ⟨g1, ⟨k, hk, pa, pb, pp⟩, ⟨g3, ⟨h0, hh0, eh⟩, hh2, hh3⟩, g6, g7⟩ := hR'
    have hmom := hW.mom
    have hW1 : Wd D m u1 := hW.fr (f1.mono rfl rfl rfl)
    have hT : mT m = nI h0 := hW.cw.gT.symm.trans eh
    -- the class lives the day
    obtain ⟨u2, e2, mo2, f2⟩ := copy5 u1
    have x2 : u2.1 1 1 = nI n ∧ RowN n (u2.2.1 15) c := ⟨(f2.i 1 1 rfl).trans ((f1.i 1 1 rfl).trans hxc.1), by rw [f2.a 15 rfl, f1.a 15 rfl]; exact hxc.2⟩
    obtain ⟨u3, e3, r3, f3⟩ := open_c (mo := 60) x2
    have f13 : Fm [(2, 1), (2, 2), (2, 3), (5, 3), (5, 4)] [25, 26, 27] [] u u3 := ((f1.mono rfl rfl rfl).trans (f2.mono rfl rfl rfl)).trans (f3.mono rfl rfl rfl)
    have hW3 : Wd D m u3 := hW.fr (f13.mono rfl rfl rfl)
    obtain ⟨dn, rf, m', u4, h', e4, c4, f4, T4, l4, d4, rr4, M4⟩ := live_d ht 60 0 FU 0 h0 m u3 rfl (by decide) (by omega) (Nat.zero_le _) r3 hW3.cw hs1 hs2 hT
    rw [Nat.zero_add] at d4 rr4 M4
    have hdn : dn ≤ 60 := by
      have : ∀ k q, (dyR n 60 c k q).1 ≤ k := dy_k
      have := this 60 0
      omega
    have hK30 := dy_2 (n := n) (mo := 60) (c := c) 60 0 (Nat.zero_le _)
    have hK60 : (dyR n 60 c 60 0).1 < 2 ^ 31 := by omega
    have mo4 : ∀ i, i < 26 → moC u4 5 i = moC u 4 i := fun i hi => by
      have e5 : moC u4 5 i = moC u2 5 i := by
        unfold moC
        rw [f4.a (fpt 5 0) rfl, f4.a (fpt 5 1) rfl, f4.a (fpt 5 2) rfl, f4.i 5 3 rfl, f4.i 5 4 rfl, f3.a (fpt 5 0) rfl, f3.a (fpt 5 1) rfl, f3.a (fpt 5 2) rfl, f3.i 5 3 rfl, f3.i 5 4 rfl]
      rw [e5, mo2 i hi]
      unfold moC
      rw [f1.a (fpt 4 0) rfl, f1.a (fpt 4 1) rfl, f1.a (fpt 4 2) rfl, f1.i 4 3 rfl, f1.i 4 4 rfl]
    have f14 : Fm [(2, 1), (2, 2), (2, 3), (5, 3), (5, 4), (4, 3), (4, 4)] [25, 26, 27, 22, 23, 24] [] u u4 := (f13.mono rfl rfl rfl).trans (f4.mono rfl rfl rfl)
    -- telling, on both sides
    have e93 : ∀ x : US, gI x 4 4 = mT m' → ∃ y, fX11_liveDay_93 (nI dn) (bI rf) x = some (nI dn, y) ∧ TolC (dyL rf (mT m')) y ∧ Tc x y := fun x hx => by
      unfold fX11_liveDay_93 fX11_liveDay_106
      rw [hx]
      cases rf with
      | true =>
        obtain ⟨y, e, t, f⟩ := tl2_c 1 (mT m').toInt64 x
        rw [if_neg (show ¬ bI true = 0 by decide), e, oVs]; exact ⟨y, rfl, t, f⟩
      | false =>
        obtain ⟨y, e, t, f⟩ := tl2_c 0 (mT m').toInt64 x
        rw [if_pos (show bI false = 0 from rfl), e, oVs]; exact ⟨y, rfl, t, f⟩
    have e88 : ∀ z : US, gI z 47 38 = nI (dyR n 60 c 60 0).1 → gA z 55 25 = mT m' → ∃ y, fX12_day_88 (nI dn) z = (if nI dn ≤ 0 then some (0, y) else oB (fX12_puts (nI dn) y) fun r4 u4 => some (r4, u4)) ∧ TolM (dyL rf (mT m')) y ∧ Tm z y := fun z hz h25 => by
      obtain ⟨y1, x1, t1, q1⟩ := en_m (clr_m z) (by decide) (bI rf).toInt64
      obtain ⟨y2, x2, t2, q2⟩ := en_m t1 (by simp) (mT m').toInt64
      have q12 : Tm z y2 := ((Fm.rf.sI rfl).trans q1).trans q2
      have h251 : gA y1 55 25 = mT m' := by
        rw [gA_fm q1 rfl]; exact h25
      refine ⟨y2, ?_, t2, q12⟩
      unfold fX12_day_88 fX12_day_108
      rw [nxs, show gI (sI z 47 1 0) 47 38 = nI (dyR n 60 c 60 0).1 from hz, show fX12_flag 0 (sI z 47 1 0) = some (bI false, sI z 47 1 0) from flag_m false _, show fX12_flag 1 (sI z 47 1 0) = some (bI true, sI z 47 1 0) from flag_m true _]
      by_cases q : dn < (dyR n 60 c 60 0).1
      · rw [decide_eq_true q] at rr4
        subst rr4
        rw [if_neg (nI_ge q hK60), oBs, x1, oVs, gd_t (show inb 25 26 = true from rfl), h251, x2, oVs]
      · rw [decide_eq_false q] at rr4
        subst rr4
        rw [if_pos (nI_le (by omega) (by omega)), oBs, x1, oVs, gd_t (show inb 25 26 = true from rfl), h251, x2, oVs]
    have ed : fX11_day u = oB (fX11_liveDay_78 (nI dn) (bI rf) u4) fun r2 u2 => fX11_day_14 r2 u2 := by
      unfold fX11_day fX11_liveDay
      rw [e1, oBs, av, if_pos rfl, e2, oVs, show (60 : Int32) = nI 60 from rfl, e3, oVs, show fX11_liveDay_26 FU 0 0 0 u3 = _ from e4]
    by_cases h00 : dn = 0
    · -- nothing done
      obtain ⟨u5, e5, t5, f5⟩ := e93 u4 c4.gT
      have ec : fX11_day u = some (nI dn, sI u5 1 1 0) := by
        rw [ed]
        unfold fX11_liveDay_78
        rw [if_pos (show nI dn ≤ 0 by rw [h00]; decide), e5, oBs]; rfl
      have f16 : Fm [(1, 1), (2, 1), (2, 2), (2, 3), (5, 3), (5, 4), (4, 3), (4, 4), (8, 1)] [25, 26, 27, 22, 23, 24] [33] u (sI u5 1 1 0) := ((f14.mono rfl rfl rfl).trans (f5.mono rfl rfl rfl)).sI rfl
      obtain ⟨u6, hu6⟩ : ∃ u6, u6 = sI u5 1 1 0 := ⟨_, rfl⟩
      rw [← hu6] at ec f16
      obtain ⟨w1, x1, r1, s1, g18, y1⟩ := rd u6 ((f16.i 47 18 rfl).trans hxm.1) (by rw [f16.a 57 rfl]; exact hxm.2)
      obtain ⟨k38, sto⟩ := s1 hs1
      rw [Nat.zero_add] at k38
      have M0 : Mw D m 55 u6 := ⟨Or.inl rfl, hW.1, hW.2.2.1.fm f16 rfl rfl, hW.2.2.2.1.fm f16 rfl rfl, hW.2.2.2.2.1, hW.2.2.2.2.2.2.fm f16 rfl⟩
      obtain ⟨w2, x2, s2, y2⟩ := putsBy_m (u := w1) hk ((y1.i 47 30 rfl).trans ((f16.i 47 30 rfl).trans pb))
      obtain ⟨w3, x3, M3, y3⟩ := M4 w2 FU ((M0.fm55 y1 rfl rfl).fm55 y2 rfl rfl) ((y2.i 47 38 rfl).trans k38) (Sto.fm y2 rfl _ _ _ sto) (by decide)
      obtain ⟨w4, x4, t4, y4⟩ := e88 w3 ((y3.i 47 38 rfl).trans ((y2.i 47 38 rfl).trans k38)) M3.gT
      have em : fX12_day u6 = some (nI dn, w4) := by
        rw [x1]
        unfold fX12_day_42
        rw [show (60 : Int32) = nI 60 from rfl, fault_m ht r1, oBs, av, if_pos (show (0 : Int32) ≤ 0 by decide), x2, oVs, show fX12_day_64 FU 0 w2 = _ from x3, x4, if_pos (show nI dn ≤ 0 by rw [h00]; decide), h00]; rfl
      have fm : Fm [(47, 0), (47, 18), (47, 19), (47, 20), (47, 21), (47, 38), (47, 1)] [65, 66, 67, 68, 69, 63, 55] [48] u6 w4 := (((y1.mono rfl rfl rfl).trans (y2.mono rfl rfl rfl)).trans (y3.mono rfl rfl rfl)).trans (y4.mono rfl rfl rfl)
      have hc6 : MoC D m' 4 u6 := by rw [hu6]; exact (c4.2.2.2.2.2.fm f5 rfl rfl).fm (show Fm [(1, 1)] [] [] u5 (sI u5 1 1 0) from Fm.rf.sI rfl) rfl rfl
      have t6 : TolC (dyL rf (mT m')) u6 := by rw [hu6]; exact t5.fm (show Fm [(1, 1)] [] [] u5 (sI u5 1 1 0) from Fm.rf.sI rfl) rfl rfl
      refine ⟨nI dn, u6, w4, ec, em, fin_day (m' := m') hW hR ((f16.mono rfl rfl rfl).trans (fm.mono rfl rfl rfl)) ?_ ?_ c4.2.2.2.2.1 (hc6.fm fm rfl rfl) (M3.2.2.2.2.2.fm y4 rfl) ⟨k, hk, ?_, ?_, fun j hj => ?_⟩ ⟨h', (by omega), ?_⟩ (fun j hj => ?_) (told_of (t6.fm fm rfl rfl) t4 (show 2 ≤ 36 by decide))⟩
      · rw [fm.i 1 1 rfl, hu6]; rfl
      · exact (y4.i 47 18 rfl).trans ((y3.i 47 18 rfl).trans ((y2.i 47 18 rfl).trans g18))
      · rw [fm.i 7 3 rfl, f16.i 7 3 rfl]; exact pa
      · rw [fm.i 47 30 rfl, f16.i 47 30 rfl]; exact pb
      · have e31 : w4.2.1 31 = u.2.1 31 := (fm.a 31 rfl).trans (f16.a 31 rfl)
        have e63 : ∀ i, i < 26 → slotF (w4.2.1 63) j i = slotF (u.2.1 63) j i := fun i hi => by
          show w4.2.1 63 (26 * j + i) = u.2.1 63 (26 * j + i)
          rw [y4.a 63 rfl, y3.a 63 rfl, s2 j i hi, if_neg (by omega), y1.a 63 rfl, f16.a 63 rfl]
        rw [e31]
        exact ⟨(pp j hj).1, MoE_cg ⟨hd.2.2.2.2.1, hd.2.2.2.2.2.1⟩ (fun _ _ => rfl) e63 (pp j hj).2⟩
      · rw [fm.i 4 4 rfl, show u6.1 4 4 = mT m' from hc6.2.2.2.2]; exact T4
      · obtain ⟨h, h1, h2⟩ := hh2 j hj
        exact ⟨h, (by omega), by rw [fm.a 31 rfl, f16.a 31 rfl]; exact h2⟩
    · -- something done
      obtain ⟨u5, e5, k5, p5, f5⟩ := push_c (u := u4) (e := 5) (Or.inr rfl) hk ((f14.i 7 3 rfl).trans pa)
      obtain ⟨u6, e6, t6, f6⟩ := e93 u5 ((f5.i 4 4 rfl).trans c4.gT)
      have ec : fX11_day u = some (nI dn, sI u6 1 1 0) := by
        rw [ed]
        unfold fX11_liveDay_78
        rw [if_neg (nI_nle (show 0 < dn by omega) (by omega)), e5, oVs, e6, oBs]; rfl
      have f17 : Fm [(1, 1), (2, 1), (2, 2), (2, 3), (5, 3), (5, 4), (4, 3), (4, 4), (8, 1), (7, 3)] [25, 26, 27, 22, 23, 24, 31] [33] u (sI u6 1 1 0) := (((f14.mono rfl rfl rfl).trans (f5.mono rfl rfl rfl)).trans (f6.mono rfl rfl rfl)).sI rfl
      obtain ⟨u7, hu7⟩ : ∃ u7, u7 = sI u6 1 1 0 := ⟨_, rfl⟩
      rw [← hu7] at ec f17
      have f67 : Fm [(1, 1)] [] [] u6 u7 := by rw [hu7]; exact Fm.rf.sI rfl
      obtain ⟨w1, x1, r1, s1, g18, y1⟩ := rd u7 ((f17.i 47 18 rfl).trans hxm.1) (by rw [f17.a 57 rfl]; exact hxm.2)
      obtain ⟨k38, sto⟩ := s1 hs1
      rw [Nat.zero_add] at k38
      have M0 : Mw D m 55 u7 := ⟨Or.inl rfl, hW.1, hW.2.2.1.fm f17 rfl rfl, hW.2.2.2.1.fm f17 rfl rfl, hW.2.2.2.2.1, hW.2.2.2.2.2.2.fm f17 rfl⟩
      obtain ⟨w2, x2, s2, y2⟩ := putsBy_m (u := w1) hk ((y1.i 47 30 rfl).trans ((f17.i 47 30 rfl).trans pb))
      obtain ⟨w3, x3, M3, y3⟩ := M4 w2 FU ((M0.fm55 y1 rfl rfl).fm55 y2 rfl rfl) ((y2.i 47 38 rfl).trans k38) (Sto.fm y2 rfl _ _ _ sto) (by decide)
      obtain ⟨w4, x4, t4, y4⟩ := e88 w3 ((y3.i 47 38 rfl).trans ((y2.i 47 38 rfl).trans k38)) M3.gT
      obtain ⟨w5, x5, kk5, s5, y5⟩ := puts_m (u := w4) hk ((y4.i 47 30 rfl).trans ((y3.i 47 30 rfl).trans ((y2.i 47 30 rfl).trans ((y1.i 47 30 rfl).trans ((f17.i 47 30 rfl).trans pb))))) (nI dn)
      have em : fX12_day u7 = some (nI dn, w5) := by
        rw [x1]
        unfold fX12_day_42
        rw [show (60 : Int32) = nI 60 from rfl, fault_m ht r1, oBs, av, if_pos (show (0 : Int32) ≤ 0 by decide), x2, oVs, show fX12_day_64 FU 0 w2 = _ from x3, x4, if_neg (nI_nle (show 0 < dn by omega) (by omega)), x5, oBs]
      have fm : Fm [(47, 0), (47, 18), (47, 19), (47, 20), (47, 21), (47, 38), (47, 1), (47, 30)] [65, 66, 67, 68, 69, 63, 55] [48] u7 w5 := ((((y1.mono rfl rfl rfl).trans (y2.mono rfl rfl rfl)).trans (y3.mono rfl rfl rfl)).trans (y4.mono rfl rfl rfl)).trans (y5.mono rfl rfl rfl)
      have hc7 : MoC D m' 4 u7 := ((c4.2.2.2.2.2.fm f5 rfl rfl).fm f6 rfl rfl).fm f67 rfl rfl
      have t7 : TolC (dyL rf (mT m')) u7 := t6.fm f67 rfl rfl
      have P1 : IsPu k (u.2.1 31) (moC u 4) (w5.2.1 31) := by
        have := p5.cg mo4
        rw [f14.a 31 rfl] at this
        rw [fm.a 31 rfl, f67.a 31 rfl, f6.a 31 rfl]
        exact this
      have P2 : IsPu k (u.2.1 63) (u.2.1 55) (w5.2.1 63) := by
        refine pu_m (g := w4.2.1 63) (fun j i hi => ?_) s5 hk
        rw [y4.a 63 rfl, y3.a 63 rfl, s2 j i hi, y1.a 55 rfl, y1.a 63 rfl, f17.a 55 rfl, f17.a 63 rfl]
      refine ⟨nI dn, u7, w5, ec, em, fin_day (m' := m') hW hR ((f17.mono rfl rfl rfl).trans (fm.mono rfl rfl rfl)) ?_ ?_ c4.2.2.2.2.1 (hc7.fm fm rfl rfl) ((M3.2.2.2.2.2.fm y4 rfl).fm y5 rfl) (past_push ⟨hd.2.2.2.2.1, hd.2.2.2.2.2.1⟩ hk pp hmom.1 hmom.2 P1 P2 ?_ kk5) ⟨h', (by omega), ?_⟩ (hr_push hk P1 hh2 ⟨h0, hh0, eh⟩) (told_of (t7.fm fm rfl rfl) (t4.fm y5 rfl rfl) (show 2 ≤ 36 by decide))⟩
      · rw [fm.i 1 1 rfl, hu7]; rfl
      · exact (y5.i 47 18 rfl).trans ((y4.i 47 18 rfl).trans ((y3.i 47 18 rfl).trans ((y2.i 47 18 rfl).trans g18)))
      · rw [fm.i 7 3 rfl, f67.i 7 3 rfl, f6.i 7 3 rfl]; exact k5
      · rw [fm.i 4 4 rfl, show u7.1 4 4 = mT m' from hc7.2.2.2.2]; exact T4
