/-! steps without loops -/
theorem inb_nI {j N : Nat} (h : j < N) (hN : N < 2 ^ 31) : inb (nI j) N = true := by
  unfold inb
  simp only [Bool.and_eq_true, decide_eq_true_eq]
  rw [nI_clamp (by omega)]
  exact ⟨nI_pos' (by omega), h⟩
theorem gd_t {ρ : Type} {b : Bool} {e : Option ρ} (h : b = true) : gd b e = e := by rw [h]; rfl
def isSo (k s : Int32) : Prop := (0 ≤ k ∧ k ≤ 7) ∧ (0 ≤ s ∧ s ≤ 9)
theorem sort_c (k s : Int32) (u : US) : (isSo k s ∧ fX11_isSort k s u = some (1, u)) ∨ (¬ isSo k s ∧ fX11_isSort k s u = some (0, u)) := by
  unfold fX11_isSort isSo
  simp only [Int32.lt_iff_toInt_lt, Int32.le_iff_toInt_le, show (0 : Int32).toInt = 0 from rfl, show (7 : Int32).toInt = 7 from rfl, show (8 : Int32).toInt = 8 from rfl, show (9 : Int32).toInt = 9 from rfl, show (10 : Int32).toInt = 10 from rfl]
  by_cases h1 : k.toInt < 0
  · right; exact ⟨by omega, by rw [if_pos h1]⟩
  · by_cases h2 : 8 ≤ k.toInt
    · right; exact ⟨by omega, by rw [if_neg h1, if_pos h2]⟩
    · by_cases h3 : s.toInt < 0
      · right; exact ⟨by omega, by rw [if_neg h1, if_neg h2, if_pos h3]⟩
      · by_cases h4 : 10 ≤ s.toInt
        · right; exact ⟨by omega, by rw [if_neg h1, if_neg h2, if_neg h3, if_pos h4]⟩
        · left; exact ⟨by omega, by rw [if_neg h1, if_neg h2, if_neg h3, if_neg h4]⟩
theorem being_m (k s : Int32) (u : US) : (isSo k s → fX12_isBeing k s u = some (1, u)) ∧ (¬ isSo k s → fX12_isBeing k s u = some (0, u)) := by
  unfold fX12_isBeing isSo
  rw [show (0 : Int64) = (0 : Int32).toInt64 from rfl, show (7 : Int64) = (7 : Int32).toInt64 from rfl, show (9 : Int64) = (9 : Int32).toInt64 from rfl, in_long]
  by_cases h1 : 0 ≤ k ∧ k ≤ 7
  · rw [if_pos h1]
    simp only [oB, in_long]
    by_cases h2 : 0 ≤ s ∧ s ≤ 9
    · rw [if_pos h2]
      exact ⟨fun _ => rfl, fun h => absurd ⟨h1, h2⟩ h⟩
    · rw [if_neg h2]
      exact ⟨fun h => absurd h.2 h2, fun _ => rfl⟩
  · rw [if_neg h1]
    exact ⟨fun h => absurd h.1 h1, fun _ => rfl⟩
theorem nI_rng {v M : Int32} {n : Nat} (hM : M.toInt = n) (h : 0 ≤ v ∧ v ≤ M) : ∃ j : Nat, j ≤ n ∧ v = nI j := nI_of2 hM (n_lt.mpr h.1) h.2
theorem IRow_push {n b : Nat} {f g : Nat → Int32} (h : IRow n b f g) {x : Int32} {c : Nat} (hc : c < b) (hx : x = nI c) : IRow (n + 1) b (upd f n x) (upd g n x) := by
  intro j hj
  by_cases e : j = n
  · subst e
    exact ⟨by rw [pk_us, pk_us], c, hc, by rw [pk_us]; exact hx⟩
  · rw [pk_un e, pk_un e]
    exact h j (by omega)
set_option maxRecDepth 20000 in
theorem st_30 : St_30 Inv := by
  intro n a1 a2 a3 u hn hI
  obtain ⟨R, C, nt, np, nr, h1, h2, h3, h4, h5, h6, h7, h8, h9, k, hk, ha, hb, hw1, hw2, hw3⟩ := hI
  have no : ∀ (hc : fX11_watched a1 a2 a3 u = some (-1, u)) (hm : fX12_watched a1 a2 a3 u = some (-1, sI u 47 0 0)), ∃ (r : Int32) (u1 u2 : US), fX11_watched a1 a2 a3 u = some (r, u1) ∧ fX12_watched a1 a2 a3 u1 = some (r, u2) ∧ Inv (n + 1) u2 := fun hc hm => ⟨-1, u, sI u 47 0 0, hc, hm, R, C, nt, np, nr, h1, h2, h3, h4, h5, h6, h7, IKept_mono h8, h9, k, hk, ha, hb, hw1, hw2, hw3⟩
  rcases sort_c a1 a2 u with ⟨hs, ec⟩ | ⟨hs, ec⟩
  · by_cases hi : 0 ≤ a3 ∧ a3 ≤ 1
    · by_cases hk2 : k = 12
      · subst hk2
        refine no ?_ ?_
        · simp only [fX11_watched, ec, oB]
          rw [if_neg (by decide), if_neg (n_lt.mpr hi.1), if_pos hi.2]
          have e : ∀ x, fX11_watched_35 a1 a2 a3 a1 a2 x u = some (-1, u) := fun x => by
            simp only [fX11_watched_35, fX10_add, show gI u 11 3 = nI 12 from ha]
            rfl
          rw [e, e, ite_self]
        · simp only [fX12_watched, nx, (being_m a1 a2 (sI u 47 0 0)).1 hs, oB]
          rw [if_neg (by decide), show (0 : Int64) = (0 : Int32).toInt64 from rfl, show (1 : Int64) = (1 : Int32).toInt64 from rfl, in_long, if_pos hi]
          simp only [show gI (sI u 47 0 0) 47 43 = nI 12 from hb]
          rfl
      · obtain ⟨⟨c1, hc1, e1⟩, c2, hc2, e2⟩ : (∃ c : Nat, c ≤ 7 ∧ a1 = nI c) ∧ ∃ c : Nat, c ≤ 9 ∧ a2 = nI c := ⟨nI_rng rfl hs.1, nI_rng rfl hs.2⟩
        obtain ⟨c3, hc3, e3⟩ := nI_rng (n := 1) rfl hi
        have hb3 : vp_nar .boolean (if a3 = 1 then 1 else 0) = a3 := by
          rcases (show c3 = 0 ∨ c3 = 1 by omega) with rfl | rfl <;> subst e3 <;> decide
        have hin := inb_nI (show k < 12 by omega) (by omega)
        refine ⟨nI (k + 1), sI (sA (sA (sA u 36 (nI k) a1) 37 (nI k) a2) 38 (nI k) a3) 11 3 (nI (k + 1)), sI (sA (sA (sA (sI (sI (sA (sA (sA u 36 (nI k) a1) 37 (nI k) a2) 38 (nI k) a3) 11 3 (nI (k + 1))) 47 0 0) 74 (nI k) a1) 75 (nI k) a2) 76 (nI k) a3) 47 43 (nI (k + 1)), ?_, ?_, R, C, nt, np, nr, h1, h2, h3, h4, h5, h6, h7, IKept_mono h8, h9, k + 1, by omega, rfl, rfl, ?_, ?_, ?_⟩
        · simp only [fX11_watched, ec, oB]
          rw [if_neg (by decide), if_neg (n_lt.mpr hi.1), if_pos hi.2]
          have e : ∀ x, vp_nar .boolean x = a3 → fX11_watched_35 a1 a2 a3 a1 a2 x u = some (nI (k + 1), sI (sA (sA (sA u 36 (nI k) a1) 37 (nI k) a2) 38 (nI k) a3) 11 3 (nI (k + 1))) := fun x hx => by
            show oB (if gI u 11 3 < 12 then gd (inb (gI u 11 3) 12) (gd (inb (gI u 11 3) 12) (gd (inb (gI u 11 3) 12) (some (gI u 11 3 + 1, sI (sA (sA (sA u 36 (gI u 11 3) a1) 37 (gI u 11 3) a2) 38 (gI u 11 3) (vp_nar .boolean x)) 11 3 (gI u 11 3 + 1))))) else some (-1, u)) _ = _
            rw [show gI u 11 3 = nI k from ha, hx, if_pos (show nI k < (12 : Int32) from nI_lt (b := 12) (by omega) (by omega)), gd_t hin, gd_t hin, gd_t hin, nI_1]
            rfl
          by_cases h1 : a3 = 1
          · rw [if_pos h1]
            exact e 1 (by rw [h1]; decide)
          · rw [if_neg h1]
            refine e 0 ?_
            have : vp_nar .boolean 0 = a3 := by rw [if_neg h1] at hb3; exact hb3
            exact this
        · simp only [fX12_watched, nx, (being_m a1 a2 _).1 hs, oB]
          rw [if_neg (by decide), show (0 : Int64) = (0 : Int32).toInt64 from rfl, show (1 : Int64) = (1 : Int32).toInt64 from rfl, in_long, if_pos hi]
          show (if (1 : Int32) = 0 then _ else if u.1 47 43 = 12 then _ else gd (inb (u.1 47 43) 12) (gd (inb (u.1 47 43) 12) (gd (inb (u.1 47 43) 12) (some (u.1 47 43 + 1, sI (sA (sA (sA (sI (sI (sA (sA (sA u 36 (nI k) a1) 37 (nI k) a2) 38 (nI k) a3) 11 3 (nI (k + 1))) 47 0 0) 74 (u.1 47 43) a1) 75 (u.1 47 43) a2) 76 (u.1 47 43) a3) 47 43 (u.1 47 43 + 1)))))) = _
          rw [if_neg (by decide), show u.1 47 43 = nI k from hb, if_neg (fun q => hk2 ((nI_eq (by omega) (by omega)).mp (q.trans (show (12 : Int32) = nI 12 from rfl)))), gd_t hin, gd_t hin, gd_t hin, nI_1]
        · show IRow (k + 1) 8 (upd (u.2.1 36) (nI k).toNatClampNeg a1) (upd (u.2.1 74) (nI k).toNatClampNeg a1)
          rw [nI_clamp (by omega)]
          exact IRow_push hw1 (c := c1) (by omega) e1
        · show IRow (k + 1) 10 (upd (u.2.1 37) (nI k).toNatClampNeg a2) (upd (u.2.1 75) (nI k).toNatClampNeg a2)
          rw [nI_clamp (by omega)]
          exact IRow_push hw2 (c := c2) (by omega) e2
        · show IRow (k + 1) 2 (upd (u.2.1 38) (nI k).toNatClampNeg a3) (upd (u.2.1 76) (nI k).toNatClampNeg a3)
          rw [nI_clamp (by omega)]
          exact IRow_push hw3 (c := c3) (by omega) e3
    · refine no ?_ ?_
      · simp only [fX11_watched, ec, oB]
        rw [if_neg (by decide)]
        by_cases hn0 : a3 < 0
        · rw [if_pos hn0]
        · rw [if_neg hn0, if_neg (fun h => hi ⟨n_lt.mp hn0, h⟩)]
      · simp only [fX12_watched, nx, (being_m a1 a2 (sI u 47 0 0)).1 hs, oB]
        rw [if_neg (by decide), show (0 : Int64) = (0 : Int32).toInt64 from rfl, show (1 : Int64) = (1 : Int32).toInt64 from rfl, in_long, if_neg hi]
        rfl
  · refine no ?_ ?_
    · simp only [fX11_watched, ec, oB]
      rfl
    · simp only [fX12_watched, nx, (being_m a1 a2 (sI u 47 0 0)).2 hs, oB]
      rfl
