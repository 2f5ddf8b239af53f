/-! fields beside each other; slips -/
variable {D : DD} {m m' : MM} {e r : Nat} {u v : US}
def nbB (D : DD) (f g : Nat) : Bool := anyB (fun h => decide (bes D f h = some g)) 4
theorem dm_q {C q x : Nat} (h : x < C) : (C * q + x) / C = q := by rw [Nat.add_comm]; exact dvd_dg h
theorem dm_r {C q x : Nat} (h : x < C) : (C * q + x) % C = x := by rw [Nat.add_comm]; exact md_dg h
theorem bes_sym (hd : DatO D) {f g h : Nat} (hf : f < dR D * dC D) (hh : h < 4) (hb : bes D f h = some g) : ∃ k, k < 4 ∧ bes D g k = some f := by
  have b := hd.1
  have hC : 0 < dC D := b.2.2.1
  have hq : f / dC D < dR D := Nat.div_lt_of_lt_mul (by rw [Nat.mul_comm]; exact hf)
  have e1 := div_add (f := f) (C := dC D)
  have e2 := Nat.mod_lt f hC
  rcases (show h = 0 ∨ h = 1 ∨ h = 2 ∨ h = 3 by omega) with rfl | rfl | rfl | rfl
  · unfold bes at hb
    rw [if_pos rfl] at hb
    split at hb
    · rename_i q0
      cases hb
      obtain ⟨q, hq'⟩ : ∃ q, f / dC D = q + 1 := ⟨f / dC D - 1, (by omega)⟩
      rw [hq', Nat.mul_add, Nat.mul_one] at e1
      have eg : f - dC D = dC D * q + f % dC D := by omega
      refine ⟨2, (by omega), ?_⟩
      unfold bes
      rw [if_neg (by decide), if_neg (by decide), if_pos rfl, eg, dm_q e2, if_pos (by rw [hq'] at hq; exact hq)]
      congr 1
      omega
    · cases hb
  · unfold bes at hb
    rw [if_neg (by decide), if_pos rfl] at hb
    split at hb
    · rename_i q0
      cases hb
      have eg : f + 1 = dC D * (f / dC D) + (f % dC D + 1) := by omega
      refine ⟨3, (by omega), ?_⟩
      unfold bes
      rw [if_neg (by decide), if_neg (by decide), if_neg (by decide), if_pos rfl, if_pos]
      · rfl
      · rw [eg, dm_r q0]; exact Nat.succ_pos _
    · cases hb
  · unfold bes at hb
    rw [if_neg (by decide), if_neg (by decide), if_pos rfl] at hb
    split at hb
    · rename_i q0
      cases hb
      have eg : f + dC D = dC D * (f / dC D + 1) + f % dC D := by rw [Nat.mul_add, Nat.mul_one]; omega
      refine ⟨0, (by omega), ?_⟩
      unfold bes
      rw [if_pos rfl, if_pos]
      · rw [Nat.add_sub_cancel]
      · rw [eg, dm_q e2]; exact Nat.succ_pos _
    · cases hb
  · unfold bes at hb
    rw [if_neg (by decide), if_neg (by decide), if_neg (by decide), if_pos rfl] at hb
    split at hb
    · rename_i q0
      cases hb
      obtain ⟨x, hx⟩ : ∃ x, f % dC D = x + 1 := ⟨f % dC D - 1, (by omega)⟩
      have eg : f - 1 = dC D * (f / dC D) + x := by omega
      refine ⟨1, (by omega), ?_⟩
      unfold bes
      rw [if_neg (by decide), if_pos rfl, if_pos]
      · congr 1
        have : 0 < f := by omega
        omega
      · rw [eg, dm_r (by omega)]; omega
    · cases hb
theorem nb_iff {f g : Nat} : nbB D f g = true ↔ ∃ h, h < 4 ∧ bes D f h = some g := by
  unfold nbB
  rw [anyB_iff]
  constructor
  · rintro ⟨h, h1, h2⟩; exact ⟨h, h1, of_decide_eq_true h2⟩
  · rintro ⟨h, h1, h2⟩; exact ⟨h, h1, decide_eq_true h2⟩
theorem nb_sym (hd : DatO D) {f g : Nat} (hf : f < dR D * dC D) (h : nbB D f g = true) : nbB D g f = true := by
  obtain ⟨k, hk, hb⟩ := nb_iff.mp h
  exact nb_iff.mpr (bes_sym hd hf hk hb)
theorem nb_lt (hd : DatO D) {f g : Nat} (hf : f < dR D * dC D) (h : nbB D f g = true) : g < dR D * dC D := by
  obtain ⟨k, hk, hb⟩ := nb_iff.mp h
  exact bes_lt hd hf hb
theorem tstL {a k : Nat} (ha : a < 2 ^ 64) (hk : k < 64) : lg_cmp ((ushL (lN a) (nI k)) &&& 1) 0 = 0 ↔ a.testBit k = false := by
  rw [lgc_eq, show (ushL (lN a) (nI k)) &&& 1 = lN (a / 2 ^ k % 2) from wb_bit ha hk, lN_z (by omega), Nat.testBit_eq_decide_div_mod_eq, decide_eq_false_iff_not]
  omega
def b1N (D : DD) (f : Nat) : Nat := bN (nbB D f) 36
theorem one_c (h : Cw D m e u) {f : Nat} (hf : f < dR D * dC D) : fX9_besideOne (nI f) u = some (lN (b1N D f), u) := by
  have hRC := h.2.1.RC
  unfold fX9_besideOne
  refine lpF (fun g (x : Int64 × Int32) w => fX9_besideOne_5 (nI f) g x.1 x.2 w) 4 (fun i => (lN (bN (fun g => anyB (fun h => decide (bes D f h = some g)) i) 36), nI i)) (fun w => w = u) (fun o => o = some (lN (b1N D f), u)) ?_ ?_ (by omega) (0, 0) ?_ rfl
  · intro g i w hi hw
    subst hw
    refine ⟨w, rfl, ?_⟩
    dsimp only
    rw [fX9_besideOne_5, if_neg (show ¬ (4 : Int32) ≤ nI i from nI_ge (b := 4) hi (by omega)), bes_c h hf (by omega), oBs, nI_1]
    cases hb : bes D f i with
    | none =>
      rw [if_pos (show hV none = -1 from rfl)]
      rw [show bN (fun g => anyB (fun h => decide (bes D f h = some g)) (i + 1)) 36 = bN (fun g => anyB (fun h => decide (bes D f h = some g)) i) 36 from bN_cong (fun g hg => by rw [anyB, hb]; simp)]
    | some q =>
      have hq := bes_lt h.2.1 hf hb
      rw [if_neg (show ¬ hV (some q) = -1 from n31 (by omega)), show hV (some q) = nI q from rfl, orL_b _ (by omega)]
      rw [show bN (fun g => anyB (fun h => decide (bes D f h = some g)) i) 36 ||| 2 ^ q = bN (fun g => anyB (fun h => decide (bes D f h = some g)) (i + 1)) 36 from tb_ext (fun j => by
        rw [tb_or2, bN_tb, bN_tb, anyB, hb]
        by_cases e : j = q
        · subst e
          rw [decide_eq_true (show j < 36 by omega), decide_eq_true (rfl : j = j), decide_eq_true (rfl : some j = some j)]; simp
        · rw [decide_eq_false e, decide_eq_false (fun w => e (Option.some.inj w).symm)]; simp)]
  · intro g w hw
    subst hw
    dsimp only
    rw [fX9_besideOne_5, if_pos (show (4 : Int32) ≤ nI 4 by decide)]; rfl
  · rw [show bN (fun g => anyB (fun h => decide (bes D f h = some g)) 0) 36 = 0 from tb_ext (fun j => by rw [bN_tb, Nat.zero_testBit, anyB, Bool.and_false])]; rfl
def bsN' (D : DD) (a : Nat) (n : Nat) : Nat := bN (fun g => anyB (fun f => a.testBit f && nbB D f g) n) 36
theorem bes_set (h : Cw D m e u) {a : Nat} (ha : a < 2 ^ 64) : fX9_beside (lN a) u = some (lN (bsN' D a (dR D * dC D)), u) := by
  have hRC := h.2.1.RC
  unfold fX9_beside
  refine lpF (fun g (x : Int64 × Int32) w => fX9_beside_5 (lN a) g x.1 x.2 w) (dR D * dC D) (fun i => (lN (bsN' D a i), nI i)) (fun w => w = u) (fun o => o = some (lN (bsN' D a (dR D * dC D)), u)) ?_ ?_ (by omega) (0, 0) ?_ rfl
  · intro g i w hi hw
    subst hw
    refine ⟨w, rfl, ?_⟩
    dsimp only
    rw [fX9_beside_5, flds_c h, oBs, if_neg (nI_ge hi (by omega)), nI_1]
    cases hb : a.testBit i with
    | false =>
      rw [if_pos ((tstL ha (by omega)).mpr hb)]
      rw [show bsN' D a (i + 1) = bsN' D a i from bN_cong (fun g hg => by rw [anyB, hb]; simp)]
    | true =>
      rw [if_neg (fun q => by rw [(tstL ha (by omega)).mp q] at hb; cases hb), one_c h hi, oBs, fb_orL]
      rw [show bsN' D a i ||| b1N D i = bsN' D a (i + 1) from tb_ext (fun j => by
        rw [Nat.testBit_or, bsN', bsN', b1N, bN_tb, bN_tb, bN_tb, anyB, hb]
        cases decide (j < 36) <;> simp)]
  · intro g w hw
    subst hw
    dsimp only
    rw [fX9_beside_5, flds_c h, oBs, if_pos (nI_le (Nat.le_refl _) (by omega))]
  · rw [show bsN' D a 0 = 0 from tb_ext (fun j => by rw [bsN', bN_tb, Nat.zero_testBit, anyB, Bool.and_false])]; rfl
/-! slips: where one can be after n hours -/
def tI' (m : MM) (n : Nat) : Int32 := mT m + nI n
theorem tI_0 (m : MM) : tI' m 0 = mT m := Int32.add_zero _
theorem tI_s (m : MM) (n : Nat) : tI' m n + 1 = tI' m (n + 1) := by unfold tI'; rw [Int32.add_assoc, nI_1]
def slB (D : DD) (m : MM) (k s o : Nat) : Nat → Nat → Bool
  | 0, f => decide (f = o) && dkB D m (tI' m 0) k s f
  | n + 1, f => (slB D m k s o n f || anyB (fun g => slB D m k s o n g && nbB D g f) (dR D * dC D)) && dkB D m (tI' m (n + 1)) k s f
def slN (D : DD) (m : MM) (k s o n : Nat) : Nat := bN (slB D m k s o n) (dR D * dC D)
theorem slN_lt (hd : DatO D) (k s o n : Nat) : slN D m k s o n < 2 ^ 36 := Nat.lt_of_lt_of_le (bN_lt _ _) (Nat.pow_le_pow_right (by decide) hd.RC)
theorem sl_s (hd : DatO D) (k s o n : Nat) : (slN D m k s o n ||| bsN' D (slN D m k s o n) (dR D * dC D)) &&& dkN D m (tI' m (n + 1)) k s = slN D m k s o (n + 1) := by
  have hRC := hd.RC
  apply tb_ext; intro j
  rw [Nat.testBit_and, Nat.testBit_or, bsN', bN_tb, dkN, bN_tb, slN, slN, bN_tb, bN_tb]
  by_cases hj : j < dR D * dC D
  · rw [decide_eq_true hj, decide_eq_true (show j < 36 by omega)]
    have : anyB (fun f => (bN (slB D m k s o n) (dR D * dC D)).testBit f && nbB D f j) (dR D * dC D) = anyB (fun g => slB D m k s o n g && nbB D g j) (dR D * dC D) := anyB_cong (fun f hf => by rw [bN_tb, decide_eq_true hf, Bool.true_and])
    rw [this]
    simp [slB]
  · simp [hj]
theorem sl_0 (hd : DatO D) {k s o : Nat} (ho : o < dR D * dC D) : 2 ^ o &&& dkN D m (mT m) k s = slN D m k s o 0 := by
  apply tb_ext; intro j
  rw [Nat.testBit_and, Nat.testBit_two_pow, dkN, bN_tb, slN, bN_tb]
  show _ = (decide (j < dR D * dC D) && (decide (j = o) && dkB D m (tI' m 0) k s j))
  rw [tI_0]
  by_cases e : j = o
  · subst e; simp
  · rw [decide_eq_false (fun w => e w.symm), decide_eq_false e]; simp
theorem sl_dead {k s o n : Nat} (h : ∀ f, f < dR D * dC D → slB D m k s o n f = false) : ∀ j f, f < dR D * dC D → slB D m k s o (n + j) f = false
  | 0, f, hf => h f hf
  | j + 1, f, hf => by
    show ((slB D m k s o (n + j) f || anyB (fun g => slB D m k s o (n + j) g && nbB D g f) (dR D * dC D)) && _) = false
    rw [sl_dead h j f hf, Bool.false_or]
    rw [show anyB (fun g => slB D m k s o (n + j) g && nbB D g f) (dR D * dC D) = false from ts_nt (fun q => by
      obtain ⟨g, hg, hq⟩ := anyB_iff.mp q
      rw [sl_dead h j g hg] at hq; cases hq)]; rfl
theorem sl_z (hd : DatO D) {k s o n : Nat} : lg_cmp (lN (slN D m k s o n)) 0 = 0 ↔ ∀ f, f < dR D * dC D → slB D m k s o n f = false := by
  have hl := slN_lt (m := m) hd k s o n
  rw [lgc_eq, lN_z (by omega)]
  constructor
  · intro h f hf
    have := congrArg (fun x => x.testBit f) h
    simp only [slN, bN_tb, hf, decide_true, Bool.true_and, Nat.zero_testBit] at this
    exact this
  · intro h
    apply tb_ext; intro j
    rw [slN, bN_tb, Nat.zero_testBit]
    by_cases hj : j < dR D * dC D
    · rw [h j hj, Bool.and_false]
    · simp [hj]
theorem slips_c (h : Cw D m 4 u) {k s o g : Nat} (hk : k < 8) (hs : s < 10) (ho : o < dR D * dC D) (hg : g < dR D * dC D) : ∃ v, fX11_slips (nI o) (nI g) (nI k) (nI s) u = some ((match fsN (fun n => slB D m k s o n g) 61 with | none => -2 | some n => nI n), v) ∧ Sx u v := by
  have b := h.b
  have hRC := h.2.1.RC
  have hso : isSo (nI k) (nI s) := ⟨⟨nI_pos' (by omega), (show nI k ≤ (7 : Int32) from nI_le (b := 7) (by omega) (by omega))⟩, nI_pos' (by omega), (show nI s ≤ (9 : Int32) from nI_le (b := 9) (by omega) (by omega))⟩
  obtain ⟨v, e1, f1⟩ := unseen_c h (mT m) hk hs
  unfold fX11_slips
  rw [isF_cy h ho, oBs, if_neg (by decide), isF_cy h hg, oBs, if_neg (by decide), sort_y hso, oBs, if_neg (by decide), h.gT, e1, oBs, show (1 : Int64) = lN 1 from rfl, wb_shl 1 (by omega), Nat.one_mul, fb_andL, sl_0 h.2.1 ho]
  refine lpE (fun f (x : Int64 × Int32) w => fX11_slips_63 (nI o) (nI g) (nI k) (nI s) f x.1 x.2 w) 61 (fun n => (lN (slN D m k s o n), nI n)) (fun n w => fsN (fun n => slB D m k s o n g) n = none ∧ Sx u w) (fun q => ∃ v, q = some ((match fsN (fun n => slB D m k s o n g) 61 with | none => -2 | some n => nI n), v) ∧ Sx u v) ?_ ?_ (by omega) (lN (slN D m k s o 0), 0) rfl ⟨rfl, f1⟩
  · rintro f n w hn ⟨hq, hf⟩
    have hw := h.sx hf
    have hl := slN_lt (m := m) h.2.1 k s o n
    dsimp only
    rw [fX11_slips_63, if_neg (show ¬ (60 : Int32) < nI n from nI_nlt (a := 60) (by omega) (by omega))]
    by_cases z : lg_cmp (lN (slN D m k s o n)) 0 = 0
    · right
      have dead := sl_dead ((sl_z h.2.1).mp z)
      have : fsN (fun n => slB D m k s o n g) 61 = none := fs_none (fun j hj => by
        by_cases q : j < n
        · by_cases q2 : slB D m k s o j g = true
          · exfalso
            obtain ⟨i, hi, hp, hm⟩ := fb_first (p := fun i => slB D m k s o i g = true) (n := n) ⟨j, q, q2⟩
            have e0 : fsN (fun n => slB D m k s o n g) i = none := fs_none (fun x hx => ts_nt (hm x hx))
            rw [fs_yN e0 hp hi] at hq; cases hq
          · exact ts_nt q2
        · obtain ⟨d, rfl⟩ : ∃ d, j = n + d := ⟨j - n, (by omega)⟩
          exact dead d g hg)
      rw [if_pos z, this]
      exact ⟨w, rfl, hf⟩
    · rw [if_neg z]
      have htb : (slN D m k s o n).testBit g = slB D m k s o n g := by rw [slN, bN_tb, decide_eq_true hg, Bool.true_and]
      cases hb : slB D m k s o n g with
      | true =>
        right
        rw [if_neg (fun q => by rw [← htb, (tstL (by omega) (by omega)).mp q] at hb; cases hb), fs_yN (p := fun n => slB D m k s o n g) hq hb hn]
        exact ⟨w, rfl, hf⟩
      | false =>
        left
        obtain ⟨v2, e2, f2⟩ := unseen_c hw (tI' m (n + 1)) hk hs
        rw [if_pos ((tstL (by omega) (by omega)).mpr (htb.trans hb)), bes_set hw (by omega), oBs, hw.gT, show mT m + nI n + 1 = tI' m (n + 1) from tI_s m n, e2, oBs, fb_orL, fb_andL, sl_s h.2.1, nI_1]
        exact ⟨v2, ⟨fs_n (p := fun n => slB D m k s o n g) hq hb, hf.trans f2⟩, rfl⟩
  · rintro f w ⟨hq, hf⟩
    dsimp only
    rw [fX11_slips_63, if_pos (show (60 : Int32) < nI 61 by decide), hq]
    exact ⟨w, rfl, hf⟩
