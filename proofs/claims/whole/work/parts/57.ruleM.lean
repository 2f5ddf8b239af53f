/-! the rule's codes at work: model -/
theorem worked_m (c a b : Int32) (u : US) : fX12_worked c a b u = some (wkM c a b, u) := by
  unfold fX12_worked wkM
  by_cases h0 : c = 0
  · rw [if_pos h0, if_pos h0]
    by_cases h : b ≤ a
    · rw [if_pos h, if_neg (n_lt.mpr h)]; rfl
    · rw [if_neg h, if_pos (fa_of_nle h)]; rfl
  rw [if_neg h0, if_neg h0]
  by_cases h1 : c = 1
  · rw [if_pos h1, if_pos h1]
    by_cases h : a ≤ b
    · rw [if_pos h, if_neg (n_lt.mpr h)]; rfl
    · rw [if_neg h, if_pos (fa_of_nle h)]; rfl
  rw [if_neg h1, if_neg h1]
  by_cases h2 : c = 2
  · rw [if_pos h2, if_pos h2]
    by_cases h : a = b
    · rw [if_pos h, if_pos h]; rfl
    · rw [if_neg h, if_neg h]; rfl
  rw [if_neg h2, if_neg h2]
  by_cases h3 : c = 3
  · rw [if_pos h3, if_pos h3]
  rw [if_neg h3, if_neg h3]
  by_cases h4 : c = 4
  · rw [if_pos h4, if_pos h4]
  rw [if_neg h4, if_neg h4]
  by_cases h5 : c = 5
  · rw [if_pos h5, if_pos h5]
  rw [if_neg h5, if_neg h5]
  by_cases h : b = 0
  · rw [if_pos h, if_pos h]
  · rw [if_neg h, if_neg h, if_neg h]
theorem rng6 {c : Int32} (h : 1000 ≤ c) (h2 : ¬ 1005 < c) : ∃ j : Nat, j < 6 ∧ c - 1000 = nI j := by
  have e : (c - 1000).toInt = c.toInt - 1000 := fb_subI (by rw [fa_le] at h; have : (1000 : Int32).toInt = 1000 := rfl; omega) (by have := fb_rng c; have : (1000 : Int32).toInt = 1000 := rfl; omega)
  rw [fa_le] at h
  rw [fa_lt] at h2
  have e1 : (1000 : Int32).toInt = 1000 := rfl
  have e2 : (1005 : Int32).toInt = 1005 := rfl
  refine ⟨(c.toInt - 1000).toNat, by omega, ?_⟩
  rw [fa_eq, e, nI_toInt (by omega)]
  omega
/-- what is asked of a pane and a thing lies in its row -/
def Askd (l h k s t : Int32) (f : Nat → Int32) : Prop := ∀ j, j < 6 → f j = nmM (nI j) l h k s t
theorem evm_run {n : Nat} (hn : n ≤ 80) (hn0 : 0 < n) {l h k s t x : Int32} {u : US} (hsz : gI u 47 26 = nI n) (hA : Askd l h k s t (u.2.1 62)) (hx : evM l h k s t (codL (u.2.1 59) n) [] = some [x]) : ∃ v, fX12_ruled_4 FU 0 0 u = some (x, v) ∧ Fm [] [61] [] u v := by
  have hgs : ∀ (w : US) (j : Nat) (y : Int32), j < 2 ^ 31 → (sA w 61 (nI j) y).2.1 61 = upd (w.2.1 61) j y := fun w j y hj => by rw [gA_sA, if_pos rfl, nI_clamp hj]
  refine lp (fun f (s' : Int32 × Int32) w => fX12_ruled_4 f s'.1 s'.2 w) n (fun i s' w => ∃ st : List Int32, s' = (nI st.length, nI i) ∧ st.length ≤ i ∧ Fm [] [61] [] u w ∧ StkAt (w.2.1 61) st ∧ evM l h k s t ((codL (u.2.1 59) n).drop i) st = some [x]) (fun o => ∃ v, o = some (x, v) ∧ Fm [] [61] [] u v) ?_ ?_ FU 0 (0, 0) u (FUg (by omega)) (Nat.zero_le _) ⟨[], rfl, Nat.le_refl _, Fm.rf, trivial, hx⟩
  · rintro f i ⟨a, b⟩ w hi ⟨st, e, hst, hf, hk2, hev⟩
    cases e
    left
    have ez : gI w 47 26 = nI n := (hf.i 47 26 rfl).trans hsz
    have ec : gA w 59 (nI i) = u.2.1 59 i := by
      show w.2.1 59 (nI i).toNatClampNeg = _
      rw [nI_clamp (by omega), hf.a 59 rfl]
    rw [codL_drop hi] at hev
    show ∃ s' v, _ ∧ fX12_ruled_4 (f + 1) (nI st.length) (nI i) w = _
    rw [fX12_ruled_4, ez, if_neg (nI_ge hi (by omega)), gd_t (inb_nI (show i < 80 by omega) (by omega)), ec]
    generalize u.2.1 59 i = c at hev
    rw [evM_cons] at hev
    by_cases h1 : c = 3000
    · rw [if_pos h1] at hev
      rw [if_pos h1]
      cases st with
      | nil => cases hev
      | cons y r =>
        simp only [List.length_cons] at hst
        rw [List.length_cons, m1n, gd_t (inb_nI (show r.length < 80 by omega) (by omega)), gd_t (inb_nI (show r.length < 80 by omega) (by omega))]
        refine ⟨(nI (r.length + 1), nI (i + 1)), sA w 61 (nI r.length) (-y), ⟨-y :: r, rfl, by simp; omega, hf.sA rfl, ?_, hev⟩, ?_⟩
        · rw [hgs _ _ _ (by omega)]; exact StkAt.push hk2.2
        · show fX12_ruled_4 f (nI (r.length + 1)) (nI i + 1) (sA w 61 (nI r.length) (-(gA w 61 (nI r.length)))) = _
          rw [show gA w 61 (nI r.length) = y by show w.2.1 61 (nI r.length).toNatClampNeg = y; rw [nI_clamp (by omega)]; exact hk2.1, nI_1]
    · rw [if_neg h1] at hev
      rw [if_neg h1]
      by_cases h2 : 2000 ≤ c
      · rw [if_pos h2] at hev
        rw [if_neg (n_lt.mpr h2)]
        match st, hst, hk2, hev with
        | [], _, _, hev => cases hev
        | [y], _, _, hev => cases hev
        | b :: a :: r, hst, hk2, hev =>
          simp only [List.length_cons] at hst
          rw [List.length_cons, List.length_cons, m1a, m1n, gd_t (inb_nI (show r.length < 80 by omega) (by omega)), gd_t (inb_nI (show r.length + 1 < 80 by omega) (by omega)), show gA w 61 (nI r.length) = a by show w.2.1 61 (nI r.length).toNatClampNeg = a; rw [nI_clamp (by omega)]; exact hk2.2.1, show gA w 61 (nI (r.length + 1)) = b by show w.2.1 61 (nI (r.length + 1)).toNatClampNeg = b; rw [nI_clamp (by omega)]; exact hk2.1, worked_m, oBs, gd_t (inb_nI (show r.length < 80 by omega) (by omega))]
          refine ⟨(nI (r.length + 1), nI (i + 1)), sA w 61 (nI r.length) (wkM (c - 2000) a b), ⟨wkM (c - 2000) a b :: r, rfl, by simp; omega, hf.sA rfl, ?_, hev⟩, ?_⟩
          · rw [hgs _ _ _ (by omega)]; exact StkAt.push hk2.2.2
          · show fX12_ruled_4 f (nI (r.length + 1)) (nI i + 1) _ = _
            rw [nI_1]
      · rw [if_neg h2] at hev
        rw [if_pos (fa_of_nle h2)]
        by_cases h3 : 1000 ≤ c
        · rw [if_pos h3] at hev
          rw [if_neg (n_lt.mpr h3)]
          by_cases h4 : 1005 < c
          · rw [if_pos h4] at hev; cases hev
          · rw [if_neg h4] at hev
            obtain ⟨j, hj, ej⟩ := rng6 h3 h4
            rw [ej] at hev
            rw [ej, gd_t (inb_nI hj (by omega)), gd_t (inb_nI (show st.length < 80 by omega) (by omega)), show gA w 62 (nI j) = nmM (nI j) l h k s t by show w.2.1 62 (nI j).toNatClampNeg = _; rw [nI_clamp (by omega), hf.a 62 rfl]; exact hA j hj]
            refine ⟨(nI (st.length + 1), nI (i + 1)), sA w 61 (nI st.length) (nmM (nI j) l h k s t), ⟨nmM (nI j) l h k s t :: st, rfl, by simp; omega, hf.sA rfl, ?_, hev⟩, ?_⟩
            · rw [hgs _ _ _ (by omega)]; exact StkAt.push hk2
            · show fX12_ruled_4 f (nI st.length + 1) (nI i + 1) _ = _
              rw [nI_1, nI_1]
        · rw [if_neg h3] at hev
          rw [if_pos (fa_of_nle h3), gd_t (inb_nI (show st.length < 80 by omega) (by omega))]
          refine ⟨(nI (st.length + 1), nI (i + 1)), sA w 61 (nI st.length) c, ⟨c :: st, rfl, by simp; omega, hf.sA rfl, ?_, hev⟩, ?_⟩
          · rw [hgs _ _ _ (by omega)]; exact StkAt.push hk2
          · show fX12_ruled_4 f (nI st.length + 1) (nI i + 1) _ = _
            rw [nI_1, nI_1]
  · rintro f ⟨a, b⟩ w ⟨st, e, hst, hf, hk2, hev⟩
    cases e
    rw [codL_end, evM_nil] at hev
    cases hev
    have ez : gI w 47 26 = nI n := (hf.i 47 26 rfl).trans hsz
    show ∃ v, fX12_ruled_4 (f + 1) (nI 1) (nI n) w = _ ∧ _
    rw [fX12_ruled_4, ez, if_pos (nI_le (Nat.le_refl _) (by omega)), if_neg (nI_ne0 hn0 (by omega)), gd_t (show inb 0 80 = true from rfl), show gA w 61 0 = x from hk2.1]
    exact ⟨w, rfl, hf⟩
variable {D : DD} {m : MM} {e r : Nat} {u v : US}
def letB (D : DD) (m : MM) (t : Int32) (p k s : Nat) : Bool := (mB m).testBit p || dr D (dl D p) (dh D p) k s t
theorem MoOK.b256 (h : MoOK D m) (hd : DatO D) : mB m < 256 := Nat.lt_of_lt_of_le h.2.2.2 (pow8 hd.1.2.2.2.2.2.1)
theorem broken_c (h : Cw D m e u) {p : Nat} (hp : p < dP D) : fX1_isBroken e (nI p) u = some (bI ((mB m).testBit p), u) := by
  have b := h.b
  have := h.2.2.2.2.1.b256 h.2.1
  unfold fX1_isBroken
  rw [gd_t h.im, h.gB, has_c (by omega) (by omega), oBs, gd_t (isB_bI _)]
theorem rlV_of {cs ms : List Int32} {l h k s : Nat} {t : Int32} (hR : RuleRel cs ms) (hne : cs ≠ []) (hl : l < 10) (hh : h < 256) (hk : k < 8) (hs : s < 10) : ∃ x, evC (nI l) (nI h) (nI k) (nI s) t cs [] = some [x] ∧ evM (nI l) (nI h) (nI k) (nI s) t ms [] = some [x] ∧ rlV ms l h k s t = (x != 0) ∧ ms ≠ [] := by
  rcases hR with ⟨e, _⟩ | ⟨_, h2, h3⟩
  · exact absurd e hne
  · obtain ⟨x, e1, e2⟩ := h3 (nI l) (nI h) (nI k) (nI s) t ⟨l, hl, rfl⟩ ⟨h, hh, rfl⟩ ⟨k, hk, rfl⟩ ⟨s, hs, rfl⟩
    refine ⟨x, e1, e2, ?_, h2⟩
    cases ms with
    | nil => exact absurd rfl h2
    | cons c cs => unfold rlV; simp only [e2]
theorem rule_c {q a km : Nat} (hq : q = 13 ∨ q = 14) (ha : a ≤ 40) (esz : gI u q 2 = nI a) (hR : RuleRel (codL (u.2.1 (fpt q 0)) a) (codL (u.2.1 59) km)) {l h k s : Nat} (hl : l < 10) (hh : h < 256) (hk : k < 8) (hs : s < 10) (t : Int32) : ∃ v, fX6_lets q (nI l) (nI h) (nI k) (nI s) t u = some (bI (rlV (codL (u.2.1 59) km) l h k s t), v) ∧ Sx u v := by
  have hr : isRul q = true := by rcases hq with rfl | rfl <;> rfl
  unfold fX6_lets
  rw [gd_t hr, esz]
  by_cases h0 : a = 0
  · subst h0
    rw [if_pos (show nI 0 = 0 from rfl), bears_c hl hh hk hs, oBs, gd_t (isB_bI _)]
    have : codL (u.2.1 59) km = [] := by
      rcases hR with ⟨_, e⟩ | ⟨e, _⟩
      · exact e
      · exact absurd rfl e
    rw [this]
    exact ⟨u, rfl, Fm.rf⟩
  · rw [if_neg (nI_ne0 (by omega) (by omega))]
    obtain ⟨x, e1, e2, e3, e4⟩ := rlV_of (t := t) hR (fun e => h0 (by have := codL_len (u.2.1 (fpt q 0)) a; rw [e] at this; exact this.symm)) hl hh hk hs
    rw [e3]
    exact evc_run hq ha esz e1
theorem lets_c (h : Cw D m e u) {p k s : Nat} (hp : p < dP D) (hk : k < 8) (hs : s < 10) (t : Int32) : ∃ v, fX8_lets e t (nI p) (nI k) (nI s) u = some (bI (letB D m t p k s), v) ∧ Sx u v := by
  have b := h.b
  unfold fX8_lets letB
  rw [gd_t h.im, broken_c h hp, oBs]
  cases hB : (mB m).testBit p with
  | true => exact ⟨u, rfl, Fm.rf⟩
  | false =>
    rw [if_pos (show bI false = 0 from rfl), gd_t (inb_nI (show p < 8 by omega) (by omega)), gd_t (inb_nI (show p < 8 by omega) (by omega)), h.gl hp, h.gh hp, Bool.false_or]
    have hl := h.2.1.2.2.2.1 p hp
    have hh := h.2.1.2.2.2.2.1 p hp
    obtain ⟨⟨a, b', k', ha, hb', hk', ea, eb, ek, hr⟩, k2, hk2, ek2, hd⟩ := h.2.2.2.1
    have : k' = k2 := (nI_eq (by omega) (by omega)).mp (ek.symm.trans ek2)
    subst this
    have fin : ∀ q : Nat, (q = 13 ∨ q = 14) → gR u 0 = q → (∃ v, fX6_lets q (nI (dl D p)) (nI (dh D p)) (nI k) (nI s) t u = some (bI (rlV (codL (u.2.1 59) k') (dl D p) (dh D p) k s t), v) ∧ Sx u v) → ∃ v, gd (isRul (gR u 0)) (oB (fX6_lets (gR u 0) (nI (dl D p)) (nI (dh D p)) (nI k) (nI s) t u) fun r3 u3 => (if r3 = 0 then some (0, u3) else some (1, u3))) = some (bI (dr D (dl D p) (dh D p) k s t), v) ∧ Sx u v := by
      intro q hq e0 hv
      obtain ⟨v, e1, f1⟩ := hv
      rw [e0, gd_t (show isRul q = true by rcases hq with rfl | rfl <;> rfl), e1, oBs, hd]
      refine ⟨v, ?_, f1⟩
      cases rlV (codL (u.2.1 59) k') (dl D p) (dh D p) k s t <;> rfl
    rcases hr with ⟨r0, _, hR⟩ | ⟨r0, _, hR⟩
    · exact fin 13 (Or.inl rfl) r0 (rule_c (u := u) (q := 13) (Or.inl rfl) ha ea hR hl hh hk hs t)
    · exact fin 14 (Or.inr rfl) r0 (rule_c (u := u) (q := 14) (Or.inr rfl) hb' eb hR hl hh hk hs t)
