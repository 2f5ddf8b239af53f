/-! the rule's codes at work: class -/
def StkAt (f : Nat → Int32) : List Int32 → Prop
  | [] => True
  | x :: r => f r.length = x ∧ StkAt f r
theorem StkAt.hi {f : Nat → Int32} {j : Nat} {y : Int32} : ∀ {st : List Int32}, StkAt f st → st.length ≤ j → StkAt (upd f j y) st
  | [], _, _ => trivial
  | x :: r, h, hj => ⟨by rw [pk_un (by simp at hj; omega)]; exact h.1, StkAt.hi h.2 (by simp at hj; omega)⟩
theorem StkAt.push {f : Nat → Int32} {st : List Int32} {y : Int32} (h : StkAt f st) : StkAt (upd f st.length y) (y :: st) := ⟨pk_us, h.hi (Nat.le_refl _)⟩
theorem codL_len (f : Nat → Int32) (n : Nat) : (codL f n).length = n := by simp [codL]
theorem codL_drop {f : Nat → Int32} {n i : Nat} (h : i < n) : (codL f n).drop i = f i :: (codL f n).drop (i + 1) := by
  rw [List.drop_eq_getElem_cons (by rw [codL_len]; omega)]
  simp [codL]
theorem codL_end (f : Nat → Int32) (n : Nat) : (codL f n).drop n = [] := List.drop_eq_nil_of_le (by rw [codL_len]; omega)
theorem evC_cons (l h k s t c : Int32) (cs st : List Int32) : evC l h k s t (c :: cs) st = if c = 126 then (match st with | x :: r => evC l h k s t cs (-x :: r) | [] => none) else if 1000 ≤ c then evC l h k s t cs ((c - 1000) :: st) else if isNm c then evC l h k s t cs (nmC c l h k s t :: st) else (match st with | b :: a :: r => evC l h k s t cs (jnC c a b :: r) | _ => none) := rfl
theorem evM_cons (l h k s t c : Int32) (cs st : List Int32) : evM l h k s t (c :: cs) st = if c = 3000 then (match st with | x :: r => evM l h k s t cs (-x :: r) | [] => none) else if 2000 ≤ c then (match st with | b :: a :: r => evM l h k s t cs (wkM (c - 2000) a b :: r) | _ => none) else if 1000 ≤ c then (if 1005 < c then none else evM l h k s t cs (nmM (c - 1000) l h k s t :: st)) else evM l h k s t cs (c :: st) := rfl
theorem evC_nil (l h k s t : Int32) (st : List Int32) : evC l h k s t [] st = some st := rfl
theorem evM_nil (l h k s t : Int32) (st : List Int32) : evM l h k s t [] st = some st := rfl
theorem isName_c (c : Int32) (u : US) : fX6_isName c u = some (bI (isNm c), u) := by
  unfold fX6_isName isNm
  by_cases h1 : c = 107
  · subst h1; rfl
  rw [if_neg h1]
  by_cases h2 : c = 115
  · subst h2; rfl
  rw [if_neg h2]
  by_cases h3 : c = 108
  · subst h3; rfl
  rw [if_neg h3]
  by_cases h4 : c = 104
  · subst h4; rfl
  rw [if_neg h4]
  by_cases h5 : c = 110
  · subst h5; rfl
  rw [if_neg h5]
  by_cases h6 : c = 116
  · subst h6; rfl
  rw [if_neg h6]
  have e : (c == 107 || c == 115 || c == 108 || c == 104 || c == 110 || c == 116) = false := by
    simp [h1, h2, h3, h4, h5, h6]
  rw [e]; rfl
theorem named_c {c : Int32} (hc : isNm c = true) (l h k s t : Int32) (u : US) : fX6_named c l h k s t u = some (nmC c l h k s t, u) := by
  unfold isNm at hc
  simp only [Bool.or_eq_true, beq_iff_eq] at hc
  rcases hc with ((((rfl | rfl) | rfl) | rfl) | rfl) | rfl <;> rfl
theorem joined_c (c a b : Int32) (u : US) : fX6_joined c a b u = some (jnC c a b, u) := by
  unfold fX6_joined jnC
  by_cases h1 : c = 42
  · subst h1; rfl
  by_cases h2 : c = 43
  · subst h2; rfl
  by_cases h3 : c = 45
  · subst h3; rfl
  rw [if_neg h1, if_neg h2, if_neg h3, if_neg h2, if_neg h3, if_neg h1]
  by_cases h4 : c = 47
  · rw [if_pos h4, if_pos h4]
    by_cases h : b = 0
    · rw [if_pos h, if_pos h]
    · rw [if_neg h, if_neg h, if_neg h]
  rw [if_neg h4, if_neg h4]
  by_cases h5 : c = 60
  · rw [if_pos h5, if_pos h5]
    by_cases h : b ≤ a
    · rw [if_pos h, if_neg (n_lt.mpr h)]
    · rw [if_neg h, if_pos (fa_of_nle h)]
  rw [if_neg h5, if_neg h5]
  by_cases h6 : c = 62
  · rw [if_pos h6, if_pos h6]
    by_cases h : a ≤ b
    · rw [if_pos h, if_neg (n_lt.mpr h)]
    · rw [if_neg h, if_pos (fa_of_nle h)]
  rw [if_neg h6, if_neg h6]
  by_cases h : a = b
  · rw [if_pos h, if_pos h]
  · rw [if_neg h, if_neg h]
theorem m1n (n : Nat) : nI (n + 1) - 1 = nI n := nI_pred n
theorem m1a (n : Nat) : nI (n + 1) + (-1) = nI n := pk_m1 n
theorem ush_bit {h k : Nat} (hh : h < 65536) (hk : k < 16) : (ush (nI h) (nI k)) &&& 1 = bI (h.testBit k) := by
  cases hb : h.testBit k with
  | false => exact (nx_bit hh hk).mpr hb
  | true =>
    have e := nx_ush hh (show k < 32 by omega)
    show ((nI h).toUInt32 >>> ((nI k).toUInt32 &&& Int32.toUInt32 31)).toInt32 &&& 1 = 1
    rw [e, show (1 : Int32) = nI (2 ^ 1 - 1) from rfl, fa_mask, Nat.shiftRight_eq_div_pow]
    rw [Nat.testBit_eq_decide_div_mod_eq] at hb
    rw [show (2 : Nat) ^ 1 = 2 from rfl, of_decide_eq_true hb]
theorem bears_c {l h k s : Nat} (hl : l < 10) (hh : h < 256) (hk : k < 8) (hs : s < 10) (u : US) : fX11_bears (nI l) (nI h) (nI k) (nI s) u = some (bI (!h.testBit k && decide (s ≤ l)), u) := by
  unfold fX11_bears
  rw [ush_bit (by omega) (by omega)]
  cases hb : h.testBit k with
  | true => rfl
  | false =>
    rw [if_pos (show bI false = 0 from rfl)]
    by_cases hq : s ≤ l
    · rw [if_neg (nI_nlt hq (by omega)), decide_eq_true hq]; rfl
    · rw [if_pos (nI_lt (by omega) (by omega)), decide_eq_false hq]; rfl
theorem evc_run {q n : Nat} (hq : q = 13 ∨ q = 14) (hn : n ≤ 40) {l h k s t x : Int32} {u : US} (hsz : gI u q 2 = nI n) (hx : evC l h k s t (codL (u.2.1 (fpt q 0)) n) [] = some [x]) : ∃ v, fX6_lets_22 q l h k s t FU 0 0 u = some (bI (x != 0), v) ∧ Sx u v := by
  have hl0 : ln (fpt q 0) = 40 := by rcases hq with rfl | rfl <;> rfl
  have hl1 : ln (fpt q 1) = 40 := by rcases hq with rfl | rfl <;> rfl
  have hin : ([44, 46, 61, 62] : List Nat).contains (fpt q 1) = true := by rcases hq with rfl | rfl <;> rfl
  have hno : ([44, 46, 61, 62] : List Nat).contains (fpt q 0) = false := by rcases hq with rfl | rfl <;> rfl
  have hgs : ∀ (w : US) (j : Nat) (y : Int32), j < 2 ^ 31 → (sA w (fpt q 1) (nI j) y).2.1 (fpt q 1) = upd (w.2.1 (fpt q 1)) j y := fun w j y hj => by rw [gA_sA, if_pos rfl, nI_clamp hj]
  refine lp (fun f (s' : Int32 × Int32) w => fX6_lets_22 q l h k s t f s'.1 s'.2 w) n (fun i s' w => ∃ st : List Int32, s' = (nI st.length, nI i) ∧ st.length ≤ i ∧ Sx u w ∧ StkAt (w.2.1 (fpt q 1)) st ∧ evC l h k s t ((codL (u.2.1 (fpt q 0)) n).drop i) st = some [x]) (fun o => ∃ v, o = some (bI (x != 0), v) ∧ Sx u v) ?_ ?_ FU 0 (0, 0) u (FUg (by omega)) (Nat.zero_le _) ⟨[], rfl, Nat.le_refl _, Fm.rf, trivial, hx⟩
  · rintro f i ⟨a, b⟩ w hi ⟨st, e, hst, hf, hk2, hev⟩
    cases e
    left
    have ez : gI w q 2 = nI n := (hf.i q 2 rfl).trans hsz
    have ec : gA w (fpt q 0) (nI i) = u.2.1 (fpt q 0) i := by
      show w.2.1 (fpt q 0) (nI i).toNatClampNeg = _
      rw [nI_clamp (by omega), hf.a _ hno]
    rw [codL_drop hi] at hev
    show ∃ s' v, _ ∧ fX6_lets_22 q l h k s t (f + 1) (nI st.length) (nI i) w = _
    rw [fX6_lets_22, ez, if_neg (nI_ge hi (by omega)), hl0, gd_t (inb_nI (show i < 40 by omega) (by omega)), ec, hl1]
    generalize u.2.1 (fpt q 0) i = c at hev
    rw [evC_cons] at hev
    by_cases h1 : c = 126
    · rw [if_pos h1] at hev
      rw [if_pos h1]
      cases st with
      | nil => cases hev
      | cons y r =>
        simp only [List.length_cons] at hst
        rw [List.length_cons, if_neg (nI_nle (by omega) (by omega)), m1n, gd_t (inb_nI (show r.length < 40 by omega) (by omega)), gd_t (inb_nI (show r.length < 40 by omega) (by omega))]
        refine ⟨(nI (r.length + 1), nI (i + 1)), sA w (fpt q 1) (nI r.length) (-y), ⟨-y :: r, rfl, by simp; omega, hf.sA hin, ?_, hev⟩, ?_⟩
        · rw [hgs _ _ _ (by omega)]; exact StkAt.push hk2.2
        · show fX6_lets_22 q l h k s t f (nI (r.length + 1)) (nI i + 1) (sA w (fpt q 1) (nI r.length) (-(gA w (fpt q 1) (nI r.length)))) = _
          rw [show gA w (fpt q 1) (nI r.length) = y by show w.2.1 (fpt q 1) (nI r.length).toNatClampNeg = y; rw [nI_clamp (by omega)]; exact hk2.1, nI_1]
    · rw [if_neg h1] at hev
      rw [if_neg h1, fX6_lets_74]
      by_cases h2 : 1000 ≤ c
      · rw [if_pos h2] at hev
        rw [if_neg (n_lt.mpr h2), if_neg (show ¬ (40 : Int32) ≤ nI st.length from nI_ge (b := 40) (by omega) (by omega)), hl1, gd_t (inb_nI (show st.length < 40 by omega) (by omega))]
        refine ⟨(nI (st.length + 1), nI (i + 1)), sA w (fpt q 1) (nI st.length) (c - 1000), ⟨(c - 1000) :: st, rfl, by simp; omega, hf.sA hin, ?_, hev⟩, ?_⟩
        · rw [hgs _ _ _ (by omega)]; exact StkAt.push hk2
        · show fX6_lets_22 q l h k s t f (nI st.length + 1) (nI i + 1) _ = _
          rw [nI_1, nI_1]
      · rw [if_neg h2] at hev
        rw [if_pos (fa_of_nle h2), fX6_lets_108, isName_c, oBs]
        by_cases h3 : isNm c = true
        · rw [if_pos h3] at hev
          rw [h3, if_neg (show ¬ bI true = 0 by decide), if_neg (show ¬ (40 : Int32) ≤ nI st.length from nI_ge (b := 40) (by omega) (by omega)), named_c h3, oBs, hl1, gd_t (inb_nI (show st.length < 40 by omega) (by omega))]
          refine ⟨(nI (st.length + 1), nI (i + 1)), sA w (fpt q 1) (nI st.length) (nmC c l h k s t), ⟨nmC c l h k s t :: st, rfl, by simp; omega, hf.sA hin, ?_, hev⟩, ?_⟩
          · rw [hgs _ _ _ (by omega)]; exact StkAt.push hk2
          · show fX6_lets_22 q l h k s t f (nI st.length + 1) (nI i + 1) _ = _
            rw [nI_1, nI_1]
        · rw [if_neg h3] at hev
          rw [ts_nt h3, if_pos (show bI false = 0 from rfl), fX6_lets_148]
          match st, hst, hk2, hev with
          | [], _, _, hev => cases hev
          | [y], _, _, hev => cases hev
          | b :: a :: r, hst, hk2, hev =>
            simp only [List.length_cons] at hst
            rw [List.length_cons, List.length_cons, if_neg (show ¬ nI (r.length + 1 + 1) ≤ (1 : Int32) from nI_ge (a := 1) (by omega) (by omega)), m1a, m1n, hl1, gd_t (inb_nI (show r.length < 40 by omega) (by omega)), gd_t (inb_nI (show r.length + 1 < 40 by omega) (by omega)), show gA w (fpt q 1) (nI r.length) = a by show w.2.1 (fpt q 1) (nI r.length).toNatClampNeg = a; rw [nI_clamp (by omega)]; exact hk2.2.1, show gA w (fpt q 1) (nI (r.length + 1)) = b by show w.2.1 (fpt q 1) (nI (r.length + 1)).toNatClampNeg = b; rw [nI_clamp (by omega)]; exact hk2.1, joined_c, oBs, gd_t (inb_nI (show r.length < 40 by omega) (by omega))]
            refine ⟨(nI (r.length + 1), nI (i + 1)), sA w (fpt q 1) (nI r.length) (jnC c a b), ⟨jnC c a b :: r, rfl, by simp; omega, hf.sA hin, ?_, hev⟩, ?_⟩
            · rw [hgs _ _ _ (by omega)]; exact StkAt.push hk2.2.2
            · show fX6_lets_22 q l h k s t f (nI (r.length + 1)) (nI i + 1) _ = _
              rw [nI_1]
  · rintro f ⟨a, b⟩ w ⟨st, e, hst, hf, hk2, hev⟩
    cases e
    rw [codL_end, evC_nil] at hev
    cases hev
    have ez : gI w q 2 = nI n := (hf.i q 2 rfl).trans hsz
    show ∃ v, fX6_lets_22 q l h k s t (f + 1) (nI 1) (nI n) w = _ ∧ _
    rw [fX6_lets_22, ez, if_pos (nI_le (Nat.le_refl _) (by omega)), hl1, gd_t (show inb 0 40 = true from rfl), show gA w (fpt q 1) 0 = x from hk2.1]
    refine ⟨w, ?_, hf⟩
    by_cases hx0 : x = 0
    · rw [if_pos hx0, hx0]; rfl
    · rw [if_neg hx0, show (x != 0) = true by simp [hx0]]; rfl
