variable {D : DD} {m : MM} {e r : Nat} {u v : US}
theorem nm3 {h k : Nat} (hh : h < 256) (hk : k < 8) (l s t : Int32) : nmM (nI 3) l (nI h) (nI k) s t = bI (h.testBit k) := by
  show (nI h >>> (nI k &&& 31)) &&& 1 = _
  rw [shr_m (by omega) (by omega), show (1 : Int32) = nI (2 ^ 1 - 1) from rfl, fa_mask, Nat.testBit_eq_decide_div_mod_eq, show (2 : Nat) ^ 1 = 2 from rfl]
  rcases (show h / 2 ^ k % 2 = 0 ∨ h / 2 ^ k % 2 = 1 by omega) with q | q <;> rw [q] <;> rfl
theorem ruled0 {l h k s t : Int32} {W : US} (hA : Askd l h k s t (W.2.1 62)) (hz : gI W 47 26 = nI 0) : fX12_ruled W = some (if nmM (nI 3) l h k s t = 0 then (if l < s then 0 else 1) else 0, W) := by
  unfold fX12_ruled
  rw [FU_s, fX12_ruled_4, hz, if_pos (show nI 0 ≤ (0 : Int32) from nI_le (a := 0) (b := 0) (Nat.le_refl _) (by omega)), if_pos (show nI 0 = 0 from rfl), gd_t (show inb 3 6 = true from rfl), show gA W 62 3 = nmM (nI 3) l h k s t from hA 3 (by omega)]
  by_cases q : nmM (nI 3) l h k s t = 0
  · rw [if_pos q, if_pos q, gd_t (show inb 1 6 = true from rfl), gd_t (show inb 2 6 = true from rfl), show gA W 62 2 = l from hA 2 (by omega), show gA W 62 1 = s from hA 1 (by omega)]
    by_cases q2 : l < s
    · rw [if_pos q2, if_pos q2]; rfl
    · rw [if_neg q2, if_neg q2]; rfl
  · rw [if_neg q, if_neg q]; rfl
theorem lets_m (h : Mw D m r u) {p k s : Nat} (hp : p < dP D) (hk : k < 8) (hs : s < 10) : ∃ v, fX12_lets r (nI p) (nI k) (nI s) u = some (bI (letB D m (mT m) p k s), v) ∧ Sx u v := by
  have b := h.b
  have hB := h.2.2.2.2.1.b256 h.2.1
  have hl := h.2.1.2.2.2.1 p hp
  have hh := h.2.1.2.2.2.2.1 p hp
  have key : ∀ W : US, Fm [] [62] [] u W → Askd (nI (dl D p)) (nI (dh D p)) (nI k) (nI s) (mT m) (W.2.1 62) → ∃ v, (oB (fX12_has (nI (mB m)) (nI p) W) fun r10 u10 => (if r10 = 0 then oB (fX12_ruled u10) fun r11 u11 => (if r11 = 0 then some (0, u11) else some (1, u11)) else some (1, u10))) = some (bI (letB D m (mT m) p k s), v) ∧ Sx u v := by
    intro W hf hA
    rw [has_m (by omega) (by omega), oBs]
    unfold letB
    cases hb : (mB m).testBit p with
    | true => exact ⟨W, rfl, hf.mono rfl rfl rfl⟩
    | false =>
      rw [if_pos (show bI false = 0 from rfl), Bool.false_or]
      obtain ⟨⟨a, b', k', ha, hb', hk', ea, eb, ek, hr⟩, k2, hk2, ek2, hd⟩ := h.2.2.2.1
      have : k' = k2 := (nI_eq (by omega) (by omega)).mp (ek.symm.trans ek2)
      subst this
      have hz : gI W 47 26 = nI k' := (hf.i 47 26 rfl).trans ek
      rw [hd]
      obtain ⟨cs, hR⟩ : ∃ cs, RuleRel cs (codL (u.2.1 59) k') := by
        rcases hr with ⟨_, _, hR⟩ | ⟨_, _, hR⟩
        · exact ⟨_, hR⟩
        · exact ⟨_, hR⟩
      by_cases h0 : k' = 0
      · subst h0
        rw [ruled0 hA hz, oBs, nm3 hh hk]
        refine ⟨W, ?_, hf.mono rfl rfl rfl⟩
        show _ = some (bI (!(dh D p).testBit k && decide (s ≤ dl D p)), W)
        cases hq : (dh D p).testBit k with
        | true => rfl
        | false =>
          by_cases hq2 : s ≤ dl D p
          · rw [if_pos (show bI false = 0 from rfl), if_neg (nI_nlt hq2 (by omega)), decide_eq_true hq2]; rfl
          · rw [if_pos (show bI false = 0 from rfl), if_pos (nI_lt (by omega) (by omega)), decide_eq_false hq2]; rfl
      · have hne : cs ≠ [] := by
          intro e0
          rcases hR with ⟨_, e⟩ | ⟨e, _⟩
          · exact h0 (by have := codL_len (u.2.1 59) k'; rw [e] at this; exact this.symm)
          · exact e e0
        obtain ⟨x, e1, e2, e3, e4⟩ := rlV_of (t := mT m) hR hne hl hh hk hs
        rw [e3]
        have e59 : W.2.1 59 = u.2.1 59 := hf.a 59 rfl
        obtain ⟨v, e5, f5⟩ := evm_run hk' (by omega) hz hA (by rw [e59]; exact e2)
        unfold fX12_ruled
        rw [e5, oBs]
        refine ⟨v, ?_, (hf.mono rfl rfl rfl).trans (f5.mono rfl rfl rfl)⟩
        by_cases hx0 : x = 0
        · rw [if_pos hx0, hx0]; rfl
        · rw [if_neg hx0, show (x != 0) = true by simp [hx0]]; rfl
  have o1 : ∀ (w : US) (x y z : Int32), gA (sA w 62 x y) 51 z = gA w 51 z := fun _ _ _ _ => rfl
  have o2 : ∀ (w : US) (x y z : Int32), gA (sA w 62 x y) 52 z = gA w 52 z := fun _ _ _ _ => rfl
  have o3 : ∀ (w : US) (x y z : Int32), gA (sA w 62 x y) r z = gA w r z := by rcases h.1 with rfl | rfl <;> exact fun _ _ _ _ => rfl
  have i8 : inb (nI p) 8 = true := inb_nI (by omega) (by omega)
  have hm1 := has_m (a := dh D p) (k := k) (by omega) (by omega)
  unfold fX12_lets
  simp only [nx, gd_t h.im, gd_t i8, gd_t (show inb 0 6 = true from rfl), gd_t (show inb 1 6 = true from rfl), gd_t (show inb 2 6 = true from rfl), gd_t (show inb 3 6 = true from rfl), gd_t (show inb 4 6 = true from rfl), gd_t (show inb 5 6 = true from rfl), h.l, gd_t (show inb 24 26 = true from rfl), gd_t (show inb 25 26 = true from rfl), o1, o2, o3, h.gl hp, h.gh hp, h.gB, h.gT, hm1, oBs, flag_m, bc_e, show ¬ (24 : Int32) = 0 by decide, if_false]
  refine key _ ((((((Fm.rf.sA rfl).sA rfl).sA rfl).sA rfl).sA rfl).sA rfl) ?_
  intro j hj
  rcases (show j = 0 ∨ j = 1 ∨ j = 2 ∨ j = 3 ∨ j = 4 ∨ j = 5 by omega) with rfl | rfl | rfl | rfl | rfl | rfl
  · rfl
  · rfl
  · rfl
  · rw [nm3 hh hk]; rfl
  · rfl
  · rfl
