/-! what was: slots of moments -/
variable {D : DD} {m m' : MM} {e r : Nat} {u v : US}
theorem inr_n {a b N : Nat} (h : a + b ≤ N) (hN : N < 2 ^ 31) : inr (nI a) (nI b) N = true := by
  unfold inr
  simp only [Bool.and_eq_true, decide_eq_true_eq]
  rw [nI_clamp (by omega), nI_clamp (by omega)]
  exact ⟨⟨nI_pos' (by omega), nI_pos' (by omega)⟩, h⟩
def wrF (old : Nat → Int32) (j : Nat) (mo : Nat → Int32) (x : Nat) : Int32 := if 26 * j ≤ x ∧ x < 26 * j + 26 then mo (x - 26 * j) else old x
theorem wr_eq (old a b c : Nat → Int32) (br hr : Int32) (j : Nat) : upd (upd (va_cpy c (va_cpy b (va_cpy a old 0 (j * 26) 8) 0 (j * 26 + 8) 8) 0 (j * 26 + 16) 8) (j * 26 + 24) br) (j * 26 + 25) hr = wrF old j (cMom a b c br hr) := by
  funext x
  unfold wrF
  by_cases h : 26 * j ≤ x ∧ x < 26 * j + 26
  · rw [if_pos h]
    unfold cMom
    by_cases h1 : x - 26 * j < 8
    · rw [if_pos h1, pk_un (by omega), pk_un (by omega), pk_cpy_out (by omega), pk_cpy_out (by omega), pk_cpy_in (by omega) (by omega), show 0 + (x - j * 26) = x - 26 * j by omega]
    · rw [if_neg h1]
      by_cases h2 : x - 26 * j < 16
      · rw [if_pos h2, pk_un (by omega), pk_un (by omega), pk_cpy_out (by omega), pk_cpy_in (by omega) (by omega), show 0 + (x - (j * 26 + 8)) = x - 26 * j - 8 by omega]
      · rw [if_neg h2]
        by_cases h3 : x - 26 * j < 24
        · rw [if_pos h3, pk_un (by omega), pk_un (by omega), pk_cpy_in (by omega) (by omega), show 0 + (x - (j * 26 + 16)) = x - 26 * j - 16 by omega]
        · rw [if_neg h3]
          by_cases h4 : x - 26 * j = 24
          · rw [if_pos h4, pk_un (by omega), show x = j * 26 + 24 by omega, pk_us]
          · rw [if_neg h4, show x = j * 26 + 25 by omega, pk_us]
  · rw [if_neg h, pk_un (by omega), pk_un (by omega), pk_cpy_out (by omega), pk_cpy_out (by omega), pk_cpy_out (by omega)]
def moC (u : US) (e : Nat) : Nat → Int32 := cMom (u.2.1 (fpt e 0)) (u.2.1 (fpt e 1)) (u.2.1 (fpt e 2)) (u.1 e 3) (u.1 e 4)
theorem l26 (j : Nat) : nI j * 26 = nI (j * 26) := pk_mul j 26
theorem l8 (j : Nat) : nI j + 8 = nI (j + 8) := nI_add j 8
theorem l16 (j : Nat) : nI j + 16 = nI (j + 16) := nI_add j 16
theorem l24 (j : Nat) : nI j + 26 - 2 = nI (j + 24) := by rw [show nI j + 26 = nI (j + 26) from nI_add j 26]; exact pk_sub (a := j + 26) (b := 2) (by omega)
theorem l25 (j : Nat) : nI j + 26 - 1 = nI (j + 25) := by rw [show nI j + 26 = nI (j + 26) from nI_add j 26]; exact pk_sub (a := j + 26) (b := 1) (by omega)
theorem write_31 {j : Nat} (he : e = 4 ∨ e = 5) (hj : j < 15) : fX1_write e 31 (nI j) u = some (sF u 31 (wrF (u.2.1 31) j (moC u e))) := by
  have hL : nI (j * 26) ≤ (Int32.ofNat (ln 31)) - 26 := by
    show nI (j * 26) ≤ nI 390 - nI 26
    rw [pk_sub (by decide)]; exact nI_le (by omega) (by omega)
  unfold fX1_write moC
  rw [l26, l8, l16, l24, l25, ← wr_eq]
  rcases he with rfl | rfl
  · rw [gd_t (show isMom 4 = true from rfl), gd_t (show okA 31 20 = true from rfl), if_neg (nI_pos (by omega)), if_pos hL, gd_t (show inr 0 8 (ln (fpt 4 0)) = true from rfl), gd_t (show inr (nI (j * 26)) 8 (ln 31) = true from inr_n (b := 8) (N := 390) (by omega) (by omega)), nxs, gd_t (show inr 0 8 (ln (fpt 4 1)) = true from rfl), gd_t (show inr (nI (j * 26 + 8)) 8 (ln 31) = true from inr_n (b := 8) (N := 390) (by omega) (by omega)), nxs, gd_t (show inr 0 8 (ln (fpt 4 2)) = true from rfl), gd_t (show inr (nI (j * 26 + 16)) 8 (ln 31) = true from inr_n (b := 8) (N := 390) (by omega) (by omega)), nxs, gd_t (show inb (nI (j * 26 + 24)) (ln 31) = true from inb_nI (N := 390) (by omega) (by omega)), nxs, gd_t (show inb (nI (j * 26 + 25)) (ln 31) = true from inb_nI (N := 390) (by omega) (by omega)), nxs, nI_clamp (by omega), nI_clamp (by omega), nI_clamp (by omega), sA_eF, sA_eF, sF_sF, sF_sF, sF_sF, sF_sF, nI_clamp (by omega), nI_clamp (by omega)]
    rfl
  · rw [gd_t (show isMom 5 = true from rfl), gd_t (show okA 31 20 = true from rfl), if_neg (nI_pos (by omega)), if_pos hL, gd_t (show inr 0 8 (ln (fpt 5 0)) = true from rfl), gd_t (show inr (nI (j * 26)) 8 (ln 31) = true from inr_n (b := 8) (N := 390) (by omega) (by omega)), nxs, gd_t (show inr 0 8 (ln (fpt 5 1)) = true from rfl), gd_t (show inr (nI (j * 26 + 8)) 8 (ln 31) = true from inr_n (b := 8) (N := 390) (by omega) (by omega)), nxs, gd_t (show inr 0 8 (ln (fpt 5 2)) = true from rfl), gd_t (show inr (nI (j * 26 + 16)) 8 (ln 31) = true from inr_n (b := 8) (N := 390) (by omega) (by omega)), nxs, gd_t (show inb (nI (j * 26 + 24)) (ln 31) = true from inb_nI (N := 390) (by omega) (by omega)), nxs, gd_t (show inb (nI (j * 26 + 25)) (ln 31) = true from inb_nI (N := 390) (by omega) (by omega)), nxs, nI_clamp (by omega), nI_clamp (by omega), nI_clamp (by omega), sA_eF, sA_eF, sF_sF, sF_sF, sF_sF, sF_sF, nI_clamp (by omega), nI_clamp (by omega)]
    rfl
theorem write_32 {j : Nat} (hj : j < 3) : fX1_write 4 32 (nI j) u = some (sF u 32 (wrF (u.2.1 32) j (moC u 4))) := by
  have hL : nI (j * 26) ≤ (Int32.ofNat (ln 32)) - 26 := by
    show nI (j * 26) ≤ nI 78 - nI 26
    rw [pk_sub (by decide)]; exact nI_le (by omega) (by omega)
  unfold fX1_write moC
  rw [l26, l8, l16, l24, l25, ← wr_eq]
  rw [gd_t (show isMom 4 = true from rfl), gd_t (show okA 32 20 = true from rfl), if_neg (nI_pos (by omega)), if_pos hL, gd_t (show inr 0 8 (ln (fpt 4 0)) = true from rfl), gd_t (show inr (nI (j * 26)) 8 (ln 32) = true from inr_n (b := 8) (N := 78) (by omega) (by omega)), nxs, gd_t (show inr 0 8 (ln (fpt 4 1)) = true from rfl), gd_t (show inr (nI (j * 26 + 8)) 8 (ln 32) = true from inr_n (b := 8) (N := 78) (by omega) (by omega)), nxs, gd_t (show inr 0 8 (ln (fpt 4 2)) = true from rfl), gd_t (show inr (nI (j * 26 + 16)) 8 (ln 32) = true from inr_n (b := 8) (N := 78) (by omega) (by omega)), nxs, gd_t (show inb (nI (j * 26 + 24)) (ln 32) = true from inb_nI (N := 78) (by omega) (by omega)), nxs, gd_t (show inb (nI (j * 26 + 25)) (ln 32) = true from inb_nI (N := 78) (by omega) (by omega)), nxs, nI_clamp (by omega), nI_clamp (by omega), nI_clamp (by omega), sA_eF, sA_eF, sF_sF, sF_sF, sF_sF, sF_sF, nI_clamp (by omega), nI_clamp (by omega)]
  rfl
/-- the class's now out of a slot -/
def rdU (u : US) (f : Nat → Int32) (j : Nat) : US := sI (sI (sF (sF (sF u 22 (va_cpy f (u.2.1 22) (j * 26) 0 8)) 23 (va_cpy f (u.2.1 23) (j * 26 + 8) 0 8)) 24 (va_cpy f (u.2.1 24) (j * 26 + 16) 0 8)) 4 3 (f (j * 26 + 24))) 4 4 (f (j * 26 + 25))
theorem read_31 {j : Nat} (hj : j < 15) : fX1_read 4 31 (nI j) u = some (rdU u (u.2.1 31) j) := by
  have hL : nI (j * 26) ≤ (Int32.ofNat (ln 31)) - 26 := by
    show nI (j * 26) ≤ nI 390 - nI 26
    rw [pk_sub (by decide)]; exact nI_le (by omega) (by omega)
  unfold fX1_read rdU
  rw [l26, l8, l16, l24, l25]
  rw [gd_t (show isMom 4 = true from rfl), gd_t (show okA 31 20 = true from rfl), if_neg (nI_pos (by omega)), if_pos hL, gd_t (show inr (nI (j * 26)) 8 (ln 31) = true from inr_n (b := 8) (N := 390) (by omega) (by omega)), gd_t (show inr 0 8 (ln (fpt 4 0)) = true from rfl), nxs, gd_t (show inr (nI (j * 26 + 8)) 8 (ln 31) = true from inr_n (b := 8) (N := 390) (by omega) (by omega)), gd_t (show inr 0 8 (ln (fpt 4 1)) = true from rfl), nxs, gd_t (show inr (nI (j * 26 + 16)) 8 (ln 31) = true from inr_n (b := 8) (N := 390) (by omega) (by omega)), gd_t (show inr 0 8 (ln (fpt 4 2)) = true from rfl), nxs, gd_t (show inb (nI (j * 26 + 24)) (ln 31) = true from inb_nI (N := 390) (by omega) (by omega)), nxs, gd_t (show inb (nI (j * 26 + 25)) (ln 31) = true from inb_nI (N := 390) (by omega) (by omega)), nxs, nI_clamp (by omega), nI_clamp (by omega), nI_clamp (by omega)]
  unfold gA
  rw [nI_clamp (by omega), nI_clamp (by omega)]
  rfl
theorem read_32 {j : Nat} (hj : j < 3) : fX1_read 4 32 (nI j) u = some (rdU u (u.2.1 32) j) := by
  have hL : nI (j * 26) ≤ (Int32.ofNat (ln 32)) - 26 := by
    show nI (j * 26) ≤ nI 78 - nI 26
    rw [pk_sub (by decide)]; exact nI_le (by omega) (by omega)
  unfold fX1_read rdU
  rw [l26, l8, l16, l24, l25]
  rw [gd_t (show isMom 4 = true from rfl), gd_t (show okA 32 20 = true from rfl), if_neg (nI_pos (by omega)), if_pos hL, gd_t (show inr (nI (j * 26)) 8 (ln 32) = true from inr_n (b := 8) (N := 78) (by omega) (by omega)), gd_t (show inr 0 8 (ln (fpt 4 0)) = true from rfl), nxs, gd_t (show inr (nI (j * 26 + 8)) 8 (ln 32) = true from inr_n (b := 8) (N := 78) (by omega) (by omega)), gd_t (show inr 0 8 (ln (fpt 4 1)) = true from rfl), nxs, gd_t (show inr (nI (j * 26 + 16)) 8 (ln 32) = true from inr_n (b := 8) (N := 78) (by omega) (by omega)), gd_t (show inr 0 8 (ln (fpt 4 2)) = true from rfl), nxs, gd_t (show inb (nI (j * 26 + 24)) (ln 32) = true from inb_nI (N := 78) (by omega) (by omega)), nxs, gd_t (show inb (nI (j * 26 + 25)) (ln 32) = true from inb_nI (N := 78) (by omega) (by omega)), nxs, nI_clamp (by omega), nI_clamp (by omega), nI_clamp (by omega)]
  unfold gA
  rw [nI_clamp (by omega), nI_clamp (by omega)]
  rfl
theorem cpyR (f g : Nat → Int32) {a t : Nat} (h : t < 8) : va_cpy f g a 0 8 t = f (a + t) := by
  rw [pk_cpy_in (by omega) (by omega), Nat.sub_zero]
theorem rdU_mo (hd : DatO D) {f : Nat → Int32} {j : Nat} (h : isMo D m (slotF f j)) : MoC D m 4 (rdU u f j) := by
  have b := hd.1
  obtain ⟨h1, h2, h3, h4, h5⟩ := h
  have hb := b.2.2.2.2.1
  have hb2 := b.2.2.2.2.2.1
  refine ⟨fun t ht => ?_, fun t ht => ?_, fun t ht => ?_, ?_, ?_⟩
  · show va_cpy f (u.2.1 22) (j * 26) 0 8 t = _
    rw [cpyR _ _ (by omega), ← h1 t ht]
    show _ = f (26 * j + t)
    rw [Nat.mul_comm]
  · show va_cpy f (u.2.1 23) (j * 26 + 8) 0 8 t = _
    rw [cpyR _ _ (by omega), ← h2 t ht]
    show _ = f (26 * j + (8 + t))
    rw [Nat.mul_comm, Nat.add_assoc]
  · show va_cpy f (u.2.1 24) (j * 26 + 16) 0 8 t = _
    rw [cpyR _ _ (by omega), ← h3 t ht]
    show _ = f (26 * j + (16 + t))
    rw [Nat.mul_comm, Nat.add_assoc]
  · show f (j * 26 + 24) = _
    rw [← h4]
    show _ = f (26 * j + 24)
    rw [Nat.mul_comm]
  · show f (j * 26 + 25) = _
    rw [← h5]
    show _ = f (26 * j + 25)
    rw [Nat.mul_comm]
theorem rdU_f {f : Nat → Int32} {j : Nat} : Fm [(4, 3), (4, 4)] [22, 23, 24] [] u (rdU u f j) := ((((Fm.rf.sF rfl).sF rfl).sF rfl).sI rfl).sI rfl
/-! slots after a push -/
def puF (k : Nat) (f mo : Nat → Int32) (j i : Nat) : Int32 := if k < 15 then (if j = k then mo i else f (26 * j + i)) else (if j = 14 then mo i else f (26 * (j + 1) + i))
def puK (k : Nat) : Nat := if k < 15 then k + 1 else 15
def IsPu (k : Nat) (f mo f' : Nat → Int32) : Prop := ∀ j i, j < 15 → i < 26 → f' (26 * j + i) = puF k f mo j i
theorem push_c {k : Nat} (he : e = 4 ∨ e = 5) (hk : k ≤ 15) (h : gI u 7 3 = nI k) : ∃ v, fX4_push e u = some v ∧ gI v 7 3 = nI (puK k) ∧ IsPu k (u.2.1 31) (moC u e) (v.2.1 31) ∧ Fm [(7, 3)] [31] [] u v := by
  have hm : isMom e = true := by rcases he with rfl | rfl <;> rfl
  unfold fX4_push fX4_push_36
  rw [gd_t hm]
  by_cases q : k < 15
  · rw [h, if_pos (show nI k < (15 : Int32) from nI_lt (b := 15) q (by omega)), write_31 he q, oVs, nxs, show gI (sF u 31 (wrF (u.2.1 31) k (moC u e))) 7 3 = nI k from h, nI_1]
    refine ⟨_, rfl, by unfold puK; rw [if_pos q]; rfl, ?_, (Fm.rf.sF rfl).sI rfl⟩
    intro j i hj hi
    show wrF (u.2.1 31) k (moC u e) (26 * j + i) = _
    unfold wrF puF
    rw [if_pos q]
    by_cases q2 : j = k
    · subst q2; rw [if_pos ⟨(by omega), (by omega)⟩, if_pos rfl, Nat.add_sub_cancel_left]
    · rw [if_neg (fun w => by omega), if_neg q2]
  · have hk : k = 15 := by omega
    subst hk
    rw [h, if_neg (show ¬ nI 15 < 15 by decide), nxs, show gI (sI u 7 3 14) 7 3 = nI 14 from rfl, l26, gd_t (show inr 26 (nI (14 * 26)) 390 = true from rfl), gd_t (show inr 0 (nI (14 * 26)) 390 = true from rfl), nxs, show gI (sF (sI u 7 3 14) 31 (va_cpy ((sI u 7 3 14).2.1 31) ((sI u 7 3 14).2.1 31) (26 : Int32).toNatClampNeg (0 : Int32).toNatClampNeg (nI (14 * 26)).toNatClampNeg)) 7 3 = nI 14 from rfl, write_31 he (by decide), oVs, nxs]
    have hmo : moC (sF (sI u 7 3 14) 31 (va_cpy ((sI u 7 3 14).2.1 31) ((sI u 7 3 14).2.1 31) (26 : Int32).toNatClampNeg (0 : Int32).toNatClampNeg (nI (14 * 26)).toNatClampNeg)) e = moC u e := by rcases he with rfl | rfl <;> rfl
    rw [hmo]
    refine ⟨_, rfl, rfl, ?_, (((Fm.rf.sI rfl).sF rfl).sF rfl).sI rfl⟩
    intro j i hj hi
    show wrF (va_cpy (u.2.1 31) (u.2.1 31) (26 : Int32).toNatClampNeg (0 : Int32).toNatClampNeg (nI (14 * 26)).toNatClampNeg) 14 (moC u e) (26 * j + i) = _
    unfold wrF puF
    rw [if_neg q]
    by_cases q2 : j = 14
    · subst q2; rw [if_pos ⟨(by omega), (by omega)⟩, if_pos rfl, Nat.add_sub_cancel_left]
    · rw [if_neg (fun w => by omega), if_neg q2, nI_clamp (by decide), show (26 : Int32).toNatClampNeg = 26 from rfl, show (0 : Int32).toNatClampNeg = 0 from rfl, pk_cpy_in (by omega) (by omega)]
      rw [show 26 + (26 * j + i - 0) = 26 * (j + 1) + i by omega]
theorem putsBy_m {k : Nat} (hk : k ≤ 15) (h : gI u 47 30 = nI k) : ∃ v, fX12_putsBy u = some v ∧ (∀ j i, i < 26 → v.2.1 63 (26 * j + i) = if j = k then u.2.1 55 i else u.2.1 63 (26 * j + i)) ∧ Fm [] [63] [] u v := by
  unfold fX12_putsBy
  refine lpE (fun f (x : Int32) w => fX12_putsBy_2 f x w) 26 (fun i => nI i) (fun n w => (∀ j i, i < 26 → w.2.1 63 (26 * j + i) = if j = k ∧ i < n then u.2.1 55 i else u.2.1 63 (26 * j + i)) ∧ Fm [] [63] [] u w) (fun o => ∃ v, o = some v ∧ (∀ j i, i < 26 → v.2.1 63 (26 * j + i) = if j = k then u.2.1 55 i else u.2.1 63 (26 * j + i)) ∧ Fm [] [63] [] u v) ?_ ?_ (by omega) 0 rfl ⟨fun j i _ => by rw [if_neg (fun q => absurd q.2 (Nat.not_lt_zero i))], Fm.rf⟩
  · rintro f n w hn ⟨hw, hf⟩
    left
    have e1 : gI w 47 30 = nI k := (hf.i 47 30 rfl).trans h
    rw [fX12_putsBy_2, if_neg (show ¬ (26 : Int32) ≤ nI n from nI_ge (b := 26) hn (by omega)), gdi hn (by omega), e1, show (26 : Int32) * nI k = nI (26 * k) from pk_mul 26 k, nI_add, gdi (show 26 * k + n < 416 by omega) (by omega), nxs, nI_1]
    refine ⟨_, ⟨fun j i hi => ?_, hf.sA rfl⟩, rfl⟩
    show upd (w.2.1 63) (nI (26 * k + n)).toNatClampNeg (w.2.1 55 (nI n).toNatClampNeg) (26 * j + i) = _
    rw [nI_clamp (by omega), nI_clamp (by omega), hf.a 55 rfl]
    by_cases q : j = k ∧ i = n
    · rw [q.1, q.2, pk_us, if_pos ⟨rfl, (by omega)⟩]
    · rw [pk_un (by omega), hw j i hi]
      by_cases q1 : j = k ∧ i < n
      · rw [if_pos q1, if_pos ⟨q1.1, (by omega)⟩]
      · rw [if_neg q1, if_neg (fun q2 => by omega)]
  · rintro f w ⟨hw, hf⟩
    rw [fX12_putsBy_2, if_pos (show (26 : Int32) ≤ nI 26 by decide)]
    refine ⟨w, rfl, fun j i hi => ?_, hf⟩
    rw [hw j i hi]
    by_cases q : j = k
    · rw [if_pos ⟨q, hi⟩, if_pos q]
    · rw [if_neg (fun q2 => q q2.1), if_neg q]
theorem puts_m {k : Nat} (hk : k ≤ 15) (h : gI u 47 30 = nI k) (x : Int32) : ∃ v, fX12_puts x u = some (x, v) ∧ gI v 47 30 = nI (puK k) ∧ (∀ j i, j < 15 → i < 26 → v.2.1 63 (26 * j + i) = if k < 15 then u.2.1 63 (26 * j + i) else u.2.1 63 (26 * (j + 1) + i)) ∧ Fm [(47, 30)] [63] [] u v := by
  unfold fX12_puts
  rw [h, nI_1, nxs, show gI (sI u 47 30 (nI (k + 1))) 47 30 = nI (k + 1) from rfl]
  by_cases q : k < 15
  · rw [if_pos (show nI (k + 1) ≤ (15 : Int32) from nI_le (b := 15) q (by omega))]
    exact ⟨_, rfl, by unfold puK; rw [if_pos q]; rfl, fun j i _ _ => by rw [if_pos q]; rfl, Fm.rf.sI rfl⟩
  · have hk : k = 15 := by omega
    subst hk
    rw [if_neg (show ¬ nI (15 + 1) ≤ 15 by decide)]
    refine lpE (fun f (y : Int32) w => fX12_puts_21 x f y w) 390 (fun i => nI i) (fun n w => (∀ y, w.2.1 63 y = if y < n then u.2.1 63 (y + 26) else u.2.1 63 y) ∧ gI w 47 30 = nI 16 ∧ Fm [(47, 30)] [63] [] u w) (fun o => ∃ v, o = some (x, v) ∧ gI v 47 30 = nI (puK 15) ∧ (∀ j i, j < 15 → i < 26 → v.2.1 63 (26 * j + i) = if 15 < 15 then u.2.1 63 (26 * j + i) else u.2.1 63 (26 * (j + 1) + i)) ∧ Fm [(47, 30)] [63] [] u v) ?_ ?_ (by omega) 0 rfl ⟨fun y => by rw [if_neg (Nat.not_lt_zero y)]; rfl, rfl, Fm.rf.sI rfl⟩
    · rintro f n w hn ⟨hw, h2, hf⟩
      left
      rw [fX12_puts_21, if_neg (show ¬ (390 : Int32) ≤ nI n from nI_ge (b := 390) hn (by omega)), show nI n + 26 = nI (n + 26) from nI_add n 26, gdi (show n + 26 < 416 by omega) (by omega), gdi (show n < 416 by omega) (by omega), nxs, nI_1]
      refine ⟨sA w 63 (nI n) (gA w 63 (nI (n + 26))), ⟨fun y => ?_, h2, hf.sA rfl⟩, rfl⟩
      show upd (w.2.1 63) (nI n).toNatClampNeg (w.2.1 63 (nI (n + 26)).toNatClampNeg) y = _
      rw [nI_clamp (by omega), nI_clamp (by omega)]
      by_cases q1 : y = n
      · subst q1; rw [pk_us, hw, if_neg (by omega), if_pos (by omega)]
      · rw [pk_un q1, hw]
        by_cases q2 : y < n
        · rw [if_pos q2, if_pos (by omega)]
        · rw [if_neg q2, if_neg (by omega)]
    · rintro f w ⟨hw, h2, hf⟩
      rw [fX12_puts_21, if_pos (show (390 : Int32) ≤ nI 390 by decide), h2, nxs]
      refine ⟨_, rfl, rfl, fun j i hj hi => ?_, hf.sI rfl⟩
      show w.2.1 63 (26 * j + i) = _
      rw [hw, if_pos (by omega), if_neg (by decide), show 26 * j + i + 26 = 26 * (j + 1) + i by omega]
theorem Mom_cg {R C nt np nr : Nat} {f f' : Nat → Int32} (hd : nt ≤ 8 ∧ np ≤ 8) (h : ∀ i, i < 26 → f' i = f i) (ho : MomOK R C nt np nr f) : MomOK R C nt np nr f' := by
  obtain ⟨o1, o2, o3, o4⟩ := ho
  refine ⟨fun t ht => ?_, fun t ht => ?_, fun t ht => ?_, ?_⟩
  · rw [h t (by omega)]; exact o1 t ht
  · rw [h _ (by omega)]; exact o2 t ht
  · rw [h _ (by omega)]; exact o3 t ht
  · rw [h _ (by omega)]; exact o4
theorem MoE_cg {nt np : Nat} {f f' g g' : Nat → Int32} (hd : nt ≤ 8 ∧ np ≤ 8) (h : ∀ i, i < 26 → f' i = f i) (h2 : ∀ i, i < 26 → g' i = g i) (ho : MomEq nt np f g) : MomEq nt np f' g' := by
  obtain ⟨o1, o2, o3, o4⟩ := ho
  refine ⟨fun t ht => ?_, fun t ht => ?_, ?_, ?_⟩
  · rw [h t (by omega), h2 t (by omega), h (8 + t) (by omega), h2 (8 + t) (by omega)]; exact o1 t ht
  · rw [h (16 + t) (by omega), h2 (16 + t) (by omega)]; exact o2 t ht
  · rw [h _ (by omega), h2 _ (by omega)]; exact o3
  · rw [h _ (by omega), h2 _ (by omega)]; exact o4
theorem past_push {R C nt np nr k : Nat} (hd : nt ≤ 8 ∧ np ≤ 8) {a b : Int32} {f g f' g' mo mo2 : Nat → Int32} (hk : k ≤ 15) (hp : ∀ j, j < k → MomOK R C nt np nr (slotF f j) ∧ MomEq nt np (slotF f j) (slotF g j)) (hm : MomOK R C nt np nr mo) (hm2 : MomEq nt np mo mo2) (h1 : IsPu k f mo f') (h2 : IsPu k g mo2 g') (ea : a = nI (puK k)) (eb : b = nI (puK k)) : IPast R C nt np nr a b f' g' := by
  refine ⟨puK k, by unfold puK; split <;> omega, ea, eb, fun j hj => ?_⟩
  have hj15 : j < 15 := by unfold puK at hj; split at hj <;> omega
  by_cases q : k < 15
  · by_cases q2 : j = k
    · have e1 : ∀ i, i < 26 → slotF f' j i = mo i := fun i hi => by show f' (26 * j + i) = _; rw [h1 j i hj15 hi]; unfold puF; rw [if_pos q, if_pos q2]
      have e2 : ∀ i, i < 26 → slotF g' j i = mo2 i := fun i hi => by show g' (26 * j + i) = _; rw [h2 j i hj15 hi]; unfold puF; rw [if_pos q, if_pos q2]
      exact ⟨Mom_cg hd e1 hm, MoE_cg hd e1 e2 hm2⟩
    · have e1 : ∀ i, i < 26 → slotF f' j i = slotF f j i := fun i hi => by show f' (26 * j + i) = _; rw [h1 j i hj15 hi]; unfold puF; rw [if_pos q, if_neg q2]; rfl
      have e2 : ∀ i, i < 26 → slotF g' j i = slotF g j i := fun i hi => by show g' (26 * j + i) = _; rw [h2 j i hj15 hi]; unfold puF; rw [if_pos q, if_neg q2]; rfl
      have hjk : j < k := by unfold puK at hj; rw [if_pos q] at hj; omega
      exact ⟨Mom_cg hd e1 (hp j hjk).1, MoE_cg hd e1 e2 (hp j hjk).2⟩
  · by_cases q2 : j = 14
    · have e1 : ∀ i, i < 26 → slotF f' j i = mo i := fun i hi => by show f' (26 * j + i) = _; rw [h1 j i hj15 hi]; unfold puF; rw [if_neg q, if_pos q2]
      have e2 : ∀ i, i < 26 → slotF g' j i = mo2 i := fun i hi => by show g' (26 * j + i) = _; rw [h2 j i hj15 hi]; unfold puF; rw [if_neg q, if_pos q2]
      exact ⟨Mom_cg hd e1 hm, MoE_cg hd e1 e2 hm2⟩
    · have e1 : ∀ i, i < 26 → slotF f' j i = slotF f (j + 1) i := fun i hi => by show f' (26 * j + i) = _; rw [h1 j i hj15 hi]; unfold puF; rw [if_neg q, if_neg q2]; rfl
      have e2 : ∀ i, i < 26 → slotF g' j i = slotF g (j + 1) i := fun i hi => by show g' (26 * j + i) = _; rw [h2 j i hj15 hi]; unfold puF; rw [if_neg q, if_neg q2]; rfl
      exact ⟨Mom_cg hd e1 (hp (j + 1) (by omega)).1, MoE_cg hd e1 e2 (hp (j + 1) (by omega)).2⟩
theorem hr_push {n k : Nat} {f f' mo : Nat → Int32} (hk : k ≤ 15) (h1 : IsPu k f mo f') (hf : ∀ j, j < 15 → ∃ h : Nat, h ≤ 300 * n ∧ f (26 * j + 25) = nI h) (hm : ∃ h : Nat, h ≤ 300 * n ∧ mo 25 = nI h) : ∀ j, j < 15 → ∃ h : Nat, h ≤ 300 * (n + 1) ∧ f' (26 * j + 25) = nI h := by
  intro j hj
  rw [h1 j 25 hj (by omega)]
  unfold puF
  have lft : ∀ x, (∃ h : Nat, h ≤ 300 * n ∧ x = nI h) → ∃ h : Nat, h ≤ 300 * (n + 1) ∧ x = nI h := fun x ⟨h, h1, h2⟩ => ⟨h, (by omega), h2⟩
  by_cases q : k < 15
  · rw [if_pos q]
    by_cases q2 : j = k
    · rw [if_pos q2]; exact lft _ hm
    · rw [if_neg q2]; exact lft _ (hf j hj)
  · rw [if_neg q]
    by_cases q2 : j = 14
    · rw [if_pos q2]; exact lft _ hm
    · rw [if_neg q2]; exact lft _ (hf (j + 1) (by omega))
