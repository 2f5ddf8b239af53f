/-! moments that go on: class 6 and model 56 (or 4 and 55) -/
variable {D : DD} {m m' : MM} {e r : Nat} {u v : US}
def bes (D : DD) (f h : Nat) : Option Nat := if h = 0 then (if 0 < f / dC D then some (f - dC D) else none) else if h = 1 then (if f % dC D + 1 < dC D then some (f + 1) else none) else if h = 2 then (if f / dC D + 1 < dR D then some (f + dC D) else none) else if h = 3 then (if 0 < f % dC D then some (f - 1) else none) else none
theorem div_add {f C : Nat} : C * (f / C) + f % C = f := Nat.div_add_mod f C
theorem bes_lt (hd : DatO D) {f h g : Nat} (hf : f < dR D * dC D) (hb : bes D f h = some g) : g < dR D * dC D := by
  have b := hd.1
  have hC : 0 < dC D := by have := b.2.2.1; omega
  have e1 := div_add (f := f) (C := dC D)
  have e2 := Nat.mod_lt f hC
  unfold bes at hb
  split at hb
  · split at hb
    · cases hb; omega
    · cases hb
  split at hb
  · split at hb
    · cases hb
      have : f / dC D < dR D := Nat.div_lt_of_lt_mul (by rw [Nat.mul_comm]; exact hf)
      have h2 : dC D * (f / dC D) + dC D ≤ dC D * dR D := by rw [← Nat.mul_succ]; exact Nat.mul_le_mul_left _ this
      rw [Nat.mul_comm (dR D)]
      omega
    · cases hb
  split at hb
  · split at hb
    · rename_i q
      cases hb
      have h2 : dC D * (f / dC D + 1) + dC D ≤ dC D * dR D := by rw [← Nat.mul_succ]; exact Nat.mul_le_mul_left _ q
      rw [Nat.mul_add, Nat.mul_one] at h2
      rw [Nat.mul_comm (dR D)]
      omega
    · cases hb
  split at hb
  · split at hb
    · cases hb; omega
    · cases hb
  · cases hb
theorem subl (n : Nat) (h : 0 < n) : nI n - 1 = nI (n - 1) := pk_sub (b := 1) h
theorem bes_c (h : Cw D m e u) {f k : Nat} (hf : f < dR D * dC D) (hk : k < 5) : fX8_fieldBeside (nI f) (nI k) u = some (hV (bes D f k), u) := by
  have b := h.b
  have hRC := h.2.1.RC
  have e1 := div_add (f := f) (C := dC D)
  have e2 := Nat.mod_lt f (show 0 < dC D by omega)
  have l1 := div_lt (C := dC D) (show f < 36 by omega)
  unfold fX8_fieldBeside
  rw [row_c h (by omega), oBs, col_c h (by omega), oBs, h.xC, h.xR, subl _ (by omega), subl _ (by omega)]
  rcases (show k = 0 ∨ k = 1 ∨ k = 2 ∨ k = 3 ∨ k = 4 by omega) with rfl | rfl | rfl | rfl | rfl
  · rw [if_pos (show nI 0 = 0 from rfl)]
    by_cases q : 0 < f / dC D
    · have hle : dC D ≤ f := by
        have := Nat.mul_le_mul_left (dC D) q
        omega
      rw [if_neg (nI_nle q (by omega)), pk_sub hle, bes, if_pos rfl, if_pos q]; rfl
    · rw [Nat.eq_zero_of_not_pos q, if_pos (show nI 0 ≤ 0 by decide), bes, if_pos rfl, if_neg q]; rfl
  · rw [if_neg (show ¬ nI 1 = 0 by decide), if_pos (show nI 1 = 1 from rfl)]
    by_cases q : f % dC D + 1 < dC D
    · rw [if_neg (nI_ge (show f % dC D < dC D - 1 by omega) (by omega)), nI_1, bes, if_neg (by decide), if_pos rfl, if_pos q]; rfl
    · rw [if_pos (nI_le (show dC D - 1 ≤ f % dC D by omega) (by omega)), bes, if_neg (by decide), if_pos rfl, if_neg q]; rfl
  · rw [if_neg (show ¬ nI 2 = 0 by decide), if_neg (show ¬ nI 2 = 1 by decide), if_pos (show nI 2 = 2 from rfl)]
    by_cases q : f / dC D + 1 < dR D
    · rw [if_neg (nI_ge (show f / dC D < dR D - 1 by omega) (by omega)), nI_add, bes, if_neg (by decide), if_neg (by decide), if_pos rfl, if_pos q]; rfl
    · rw [if_pos (nI_le (show dR D - 1 ≤ f / dC D by omega) (by omega)), bes, if_neg (by decide), if_neg (by decide), if_pos rfl, if_neg q]; rfl
  · rw [if_neg (show ¬ nI 3 = 0 by decide), if_neg (show ¬ nI 3 = 1 by decide), if_neg (show ¬ nI 3 = 2 by decide), if_pos (show nI 3 = 3 from rfl)]
    by_cases q : 0 < f % dC D
    · have := Nat.mod_le f (dC D)
      rw [if_neg (nI_nle q (by omega)), subl _ (by omega), bes, if_neg (by decide), if_neg (by decide), if_neg (by decide), if_pos rfl, if_pos q]; rfl
    · rw [Nat.eq_zero_of_not_pos q, if_pos (show nI 0 ≤ 0 by decide), bes, if_neg (by decide), if_neg (by decide), if_neg (by decide), if_pos rfl, if_neg q]; rfl
  · rw [if_neg (show ¬ nI 4 = 0 by decide), if_neg (show ¬ nI 4 = 1 by decide), if_neg (show ¬ nI 4 = 2 by decide), if_neg (show ¬ nI 4 = 3 by decide)]; rfl
def besM (D : DD) (f h : Nat) : Option Nat := if h = 4 then some f else bes D f h
theorem nix {N : Nat} (hN : N ≤ 2 ^ 31) : ¬ isIx N (-1) := by
  rintro ⟨j, hj, q⟩
  have h2 := congrArg Int32.toInt q
  rw [nI_toInt (by omega), show (-1 : Int32).toInt = -1 from rfl] at h2
  omega
theorem nixN {N j : Nat} (h : N ≤ j) (hj : j < 2 ^ 31) : ¬ isIx N (nI j) := by
  rintro ⟨i, hi, q⟩
  have := (nI_eq hj (by omega)).mp q
  omega
theorem b51_y (h : Mw D m r u) {x c : Nat} {v1 v2 s0 s1 : Int32} (hx : x < dR D) (hc : c < dC D) (e1 : s0 + s1 = nI c) : fX12_beside_51 v1 v2 (nI x) s0 s1 u = some (nI (dC D * x + c), u) := by
  have b := h.b
  rw [fX12_beside_51, h.xR, in_y (by omega) hx, oBs, if_neg (by decide), e1, h.xC, in_y (by omega) hc, oBs, if_neg (by decide), h.xC, pk_mul, nI_add]
theorem b51_n1 (h : Mw D m r u) {x : Int32} {v1 v2 s0 s1 : Int32} (hx : ¬ isIx (dR D) x) : fX12_beside_51 v1 v2 x s0 s1 u = some (-1, u) := by
  have b := h.b
  rw [fX12_beside_51, h.xR, in_n (by omega) hx, oBs, if_pos rfl]
theorem b51_n2 (h : Mw D m r u) {x : Nat} {v1 v2 s0 s1 : Int32} (hx : x < dR D) (hc : ¬ isIx (dC D) (s0 + s1)) : fX12_beside_51 v1 v2 (nI x) s0 s1 u = some (-1, u) := by
  have b := h.b
  rw [fX12_beside_51, h.xR, in_y (by omega) hx, oBs, if_neg (by decide), h.xC, in_n (by omega) hc, oBs, if_pos rfl]
theorem ad0 (n : Nat) : nI n + 0 = nI n := nI_add n 0
theorem bes_m (h : Mw D m r u) {f k : Nat} (hf : f < dR D * dC D) (hk : k < 5) : fX12_beside (nI f) (nI k) u = some (hV (besM D f k), u) := by
  have b := h.b
  have hRC := h.2.1.RC
  have e1 := div_add (f := f) (C := dC D)
  have e2 := Nat.mod_lt f (show 0 < dC D by omega)
  have l1 := div_lt (C := dC D) (show f < 36 by omega)
  have hq : f / dC D < dR D := Nat.div_lt_of_lt_mul (by rw [Nat.mul_comm]; exact hf)
  have n0 := nI_ne0 (show 0 < dC D by omega) (show dC D < 2 ^ 31 by omega)
  unfold fX12_beside fX12_beside_24
  rw [h.xC, if_neg n0, if_neg n0, if_neg n0, if_neg n0, pk_rem (by omega) (by omega) (by omega), pk_div (by omega) (by omega) (by omega)]
  rcases (show k = 0 ∨ k = 1 ∨ k = 2 ∨ k = 3 ∨ k = 4 by omega) with rfl | rfl | rfl | rfl | rfl
  · rw [if_neg (show ¬ nI 0 = 2 by decide), if_pos (show nI 0 = 0 from rfl), if_neg (show ¬ nI 0 = 1 by decide), if_neg (show ¬ nI 0 = 3 by decide), besM, if_neg (by decide), bes, if_pos rfl]
    by_cases q : 0 < f / dC D
    · obtain ⟨x, hx⟩ : ∃ x, f / dC D = x + 1 := ⟨f / dC D - 1, (by omega)⟩
      rw [if_pos q, hx, pk_m1, b51_y h (x := x) (c := f % dC D) (by omega) e2 (ad0 _)]
      rw [hx, Nat.mul_add, Nat.mul_one] at e1
      rw [show dC D * x + f % dC D = f - dC D by omega]; rfl
    · rw [if_neg q, Nat.eq_zero_of_not_pos q, show nI 0 + (-1) = -1 from by decide, b51_n1 h (nix (by omega))]; rfl
  · rw [if_neg (show ¬ nI 1 = 2 by decide), if_neg (show ¬ nI 1 = 0 by decide), if_pos (show nI 1 = 1 from rfl), besM, if_neg (by decide), bes, if_neg (by decide), if_pos rfl, ad0]
    by_cases q : f % dC D + 1 < dC D
    · rw [if_pos q, b51_y h (c := f % dC D + 1) hq q (nI_1 _)]
      rw [show dC D * (f / dC D) + (f % dC D + 1) = f + 1 by omega]; rfl
    · rw [if_neg q, b51_n2 h hq (by rw [nI_1]; exact nixN (by omega) (by omega))]; rfl
  · rw [if_pos (show nI 2 = 2 from rfl), if_neg (show ¬ nI 2 = 1 by decide), if_neg (show ¬ nI 2 = 3 by decide), besM, if_neg (by decide), bes, if_neg (by decide), if_neg (by decide), if_pos rfl, nI_1]
    by_cases q : f / dC D + 1 < dR D
    · rw [if_pos q, b51_y h (c := f % dC D) q e2 (ad0 _)]
      rw [show dC D * (f / dC D + 1) + f % dC D = f + dC D by rw [Nat.mul_add, Nat.mul_one]; omega]; rfl
    · rw [if_neg q, b51_n1 h (nixN (by omega) (by omega))]; rfl
  · rw [if_neg (show ¬ nI 3 = 2 by decide), if_neg (show ¬ nI 3 = 0 by decide), if_neg (show ¬ nI 3 = 1 by decide), if_pos (show nI 3 = 3 from rfl), besM, if_neg (by decide), bes, if_neg (by decide), if_neg (by decide), if_neg (by decide), if_pos rfl, ad0]
    by_cases q : 0 < f % dC D
    · obtain ⟨x, hx⟩ : ∃ x, f % dC D = x + 1 := ⟨f % dC D - 1, (by omega)⟩
      rw [if_pos q, b51_y h (c := x) hq (by omega) (by rw [hx, pk_m1])]
      rw [show dC D * (f / dC D) + x = f - 1 by omega]; rfl
    · rw [if_neg q, b51_n2 h hq (by rw [Nat.eq_zero_of_not_pos q]; exact nix (by omega))]; rfl
  · rw [if_neg (show ¬ nI 4 = 2 by decide), if_neg (show ¬ nI 4 = 0 by decide), if_neg (show ¬ nI 4 = 1 by decide), if_neg (show ¬ nI 4 = 3 by decide), ad0, b51_y h hq e2 (ad0 _), besM, if_pos rfl, div_add]; rfl
/-! moments alike -/
def mEq (D : DD) (m m' : MM) : Prop := (∀ t, t < dT D → mF m t = mF m' t) ∧ (∀ t, t < dT D → mH m t = mH m' t) ∧ (∀ p, p < dP D → mO m p = mO m' p) ∧ mB m = mB m' ∧ mT m = mT m'
theorem MoOK.cg (h : MoOK D m) (q : mEq D m m') : MoOK D m' := ⟨fun t ht => by rw [← q.1 t ht]; exact h.1 t ht, fun t ht => by rw [← q.2.1 t ht]; exact h.2.1 t ht, fun p hp => by rw [← q.2.2.1 p hp]; exact h.2.2.1 p hp, by rw [← q.2.2.2.1]; exact h.2.2.2⟩
theorem MoC.cg (h : MoC D m e u) (q : mEq D m m') : MoC D m' e u := ⟨fun t ht => by rw [← q.1 t ht]; exact h.1 t ht, fun t ht => by rw [← q.2.1 t ht]; exact h.2.1 t ht, fun p hp => by rw [← q.2.2.1 p hp]; exact h.2.2.1 p hp, by rw [← q.2.2.2.1]; exact h.2.2.2.1, by rw [← q.2.2.2.2]; exact h.2.2.2.2⟩
theorem MoM.cg (h : MoM D m r u) (q : mEq D m m') : MoM D m' r u := ⟨fun t ht => by rw [← q.1 t ht]; exact h.1 t ht, fun t ht => by rw [← q.2.1 t ht]; exact h.2.1 t ht, fun p hp => by rw [← q.2.2.1 p hp]; exact h.2.2.1 p hp, by rw [← q.2.2.2.1]; exact h.2.2.2.1, by rw [← q.2.2.2.2]; exact h.2.2.2.2⟩
theorem Cw.cg (h : Cw D m e u) (q : mEq D m m') : Cw D m' e u := ⟨h.1, h.2.1, h.2.2.1, h.2.2.2.1, h.2.2.2.2.1.cg q, h.2.2.2.2.2.cg q⟩
theorem Mw.cg (h : Mw D m r u) (q : mEq D m m') : Mw D m' r u := ⟨h.1, h.2.1, h.2.2.1, h.2.2.2.1, h.2.2.2.2.1.cg q, h.2.2.2.2.2.cg q⟩
/-! changes of a moment -/
def uN' {α : Type} (f : Nat → α) (t : Nat) (x : α) (i : Nat) : α := if i = t then x else f i
def mSF (m : MM) (t x : Nat) : MM := (uN' (mF m) t x, mH m, mO m, mB m, mT m)
def mSH (m : MM) (t x : Nat) : MM := (mF m, uN' (mH m) t x, mO m, mB m, mT m)
def mSO (m : MM) (p : Nat) (x : Option Nat) : MM := (mF m, mH m, uN' (mO m) p x, mB m, mT m)
def mSB (m : MM) (x : Nat) : MM := (mF m, mH m, mO m, x, mT m)
def mST (m : MM) (x : Int32) : MM := (mF m, mH m, mO m, mB m, x)
theorem upd_uN {f : Nat → Int32} {g : Nat → Nat} {n t x : Nat} (h : RowN n f g) (ht : t < 2 ^ 31) : RowN n (upd f (nI t).toNatClampNeg (nI x)) (uN' g t x) := by
  intro j hj
  rw [nI_clamp ht]
  unfold uN'
  by_cases q : j = t
  · subst q; rw [pk_us, if_pos rfl]
  · rw [pk_un q, if_neg q]; exact h j hj
theorem upd_uO {f : Nat → Int32} {g : Nat → Option Nat} {n t : Nat} {x : Option Nat} (h : ∀ p, p < n → f p = hV (g p)) (ht : t < 2 ^ 31) : ∀ p, p < n → upd f (nI t).toNatClampNeg (hV x) p = hV (uN' g t x p) := by
  intro j hj
  rw [nI_clamp ht]
  unfold uN'
  by_cases q : j = t
  · subst q; rw [pk_us, if_pos rfl]
  · rw [pk_un q, if_neg q]; exact h j hj
theorem OK_sF (h : MoOK D m) {t x : Nat} (hx : x < dR D * dC D) : MoOK D (mSF m t x) := ⟨fun i hi => by show uN' (mF m) t x i < _; unfold uN'; split; exact hx; exact h.1 i hi, h.2⟩
theorem OK_sH (h : MoOK D m) {t x : Nat} (hx : x < 5) : MoOK D (mSH m t x) := ⟨h.1, fun i hi => by show uN' (mH m) t x i < _; unfold uN'; split; exact hx; exact h.2.1 i hi, h.2.2⟩
theorem OK_sO (h : MoOK D m) {p : Nat} {x : Option Nat} (hx : ∀ r, x = some r → r < dM D) : MoOK D (mSO m p x) := ⟨h.1, h.2.1, fun i hi r => by show uN' (mO m) p x i = _ → _; unfold uN'; split; exact hx r; exact h.2.2.1 i hi r, h.2.2.2⟩
theorem OK_sB (h : MoOK D m) {x : Nat} (hx : x < 2 ^ dP D) : MoOK D (mSB m x) := ⟨h.1, h.2.1, h.2.2.1, hx⟩
theorem OK_sT (h : MoOK D m) {x : Int32} : MoOK D (mST m x) := h
theorem Cw.sF (h : Cw D m e u) {t x : Nat} (ht : t < dT D) (hx : x < dR D * dC D) : Cw D (mSF m t x) e (sA u (fpt e 0) (nI t) (nI x)) := by
  have b := h.b
  obtain ⟨h1, h2, h3, h4, h5, h6⟩ := h
  rcases h1 with rfl | rfl
  · exact ⟨Or.inl rfl, h2, h3.fm (b := [22]) (a := []) (c := []) (Fm.rf.sA rfl) rfl rfl, h4.fm (b := [22]) (a := []) (c := []) (Fm.rf.sA rfl) rfl rfl, OK_sF h5 hx, upd_uN h6.1 (by omega), h6.2⟩
  · exact ⟨Or.inr rfl, h2, h3.fm (b := [28]) (a := []) (c := []) (Fm.rf.sA rfl) rfl rfl, h4.fm (b := [28]) (a := []) (c := []) (Fm.rf.sA rfl) rfl rfl, OK_sF h5 hx, upd_uN h6.1 (by omega), h6.2⟩
theorem Cw.sH (h : Cw D m e u) {t x : Nat} (ht : t < dT D) (hx : x < 5) : Cw D (mSH m t x) e (sA u (fpt e 1) (nI t) (nI x)) := by
  have b := h.b
  obtain ⟨h1, h2, h3, h4, h5, h6⟩ := h
  rcases h1 with rfl | rfl
  · exact ⟨Or.inl rfl, h2, h3.fm (b := [23]) (a := []) (c := []) (Fm.rf.sA rfl) rfl rfl, h4.fm (b := [23]) (a := []) (c := []) (Fm.rf.sA rfl) rfl rfl, OK_sH h5 hx, h6.1, upd_uN h6.2.1 (by omega), h6.2.2⟩
  · exact ⟨Or.inr rfl, h2, h3.fm (b := [29]) (a := []) (c := []) (Fm.rf.sA rfl) rfl rfl, h4.fm (b := [29]) (a := []) (c := []) (Fm.rf.sA rfl) rfl rfl, OK_sH h5 hx, h6.1, upd_uN h6.2.1 (by omega), h6.2.2⟩
theorem Cw.sO (h : Cw D m e u) {p : Nat} {x : Option Nat} (hp : p < dP D) (hx : ∀ r, x = some r → r < dM D) : Cw D (mSO m p x) e (sA u (fpt e 2) (nI p) (hV x)) := by
  have b := h.b
  obtain ⟨h1, h2, h3, h4, h5, h6⟩ := h
  rcases h1 with rfl | rfl
  · exact ⟨Or.inl rfl, h2, h3.fm (b := [24]) (a := []) (c := []) (Fm.rf.sA rfl) rfl rfl, h4.fm (b := [24]) (a := []) (c := []) (Fm.rf.sA rfl) rfl rfl, OK_sO h5 hx, h6.1, h6.2.1, upd_uO h6.2.2.1 (by omega), h6.2.2.2⟩
  · exact ⟨Or.inr rfl, h2, h3.fm (b := [30]) (a := []) (c := []) (Fm.rf.sA rfl) rfl rfl, h4.fm (b := [30]) (a := []) (c := []) (Fm.rf.sA rfl) rfl rfl, OK_sO h5 hx, h6.1, h6.2.1, upd_uO h6.2.2.1 (by omega), h6.2.2.2⟩
theorem Cw.sB (h : Cw D m e u) {x : Nat} (hx : x < 2 ^ dP D) : Cw D (mSB m x) e (sI u e 3 (nI x)) := by
  obtain ⟨h1, h2, h3, h4, h5, h6⟩ := h
  rcases h1 with rfl | rfl
  · exact ⟨Or.inl rfl, h2, h3.fm (a := [(4, 3)]) (b := []) (c := []) (Fm.rf.sI rfl) rfl rfl, h4.fm (a := [(4, 3)]) (b := []) (c := []) (Fm.rf.sI rfl) rfl rfl, OK_sB h5 hx, h6.1, h6.2.1, h6.2.2.1, rfl, h6.2.2.2.2⟩
  · exact ⟨Or.inr rfl, h2, h3.fm (a := [(6, 3)]) (b := []) (c := []) (Fm.rf.sI rfl) rfl rfl, h4.fm (a := [(6, 3)]) (b := []) (c := []) (Fm.rf.sI rfl) rfl rfl, OK_sB h5 hx, h6.1, h6.2.1, h6.2.2.1, rfl, h6.2.2.2.2⟩
theorem Cw.sT (h : Cw D m e u) {x : Int32} : Cw D (mST m x) e (sI u e 4 x) := by
  obtain ⟨h1, h2, h3, h4, h5, h6⟩ := h
  rcases h1 with rfl | rfl
  · exact ⟨Or.inl rfl, h2, h3.fm (a := [(4, 4)]) (b := []) (c := []) (Fm.rf.sI rfl) rfl rfl, h4.fm (a := [(4, 4)]) (b := []) (c := []) (Fm.rf.sI rfl) rfl rfl, OK_sT h5, h6.1, h6.2.1, h6.2.2.1, h6.2.2.2.1, rfl⟩
  · exact ⟨Or.inr rfl, h2, h3.fm (a := [(6, 4)]) (b := []) (c := []) (Fm.rf.sI rfl) rfl rfl, h4.fm (a := [(6, 4)]) (b := []) (c := []) (Fm.rf.sI rfl) rfl rfl, OK_sT h5, h6.1, h6.2.1, h6.2.2.1, h6.2.2.2.1, rfl⟩
theorem mw_sA (h : Mw D m r u) (hm : MoOK D m') {x y : Int32} (hr : isMo D m' (upd (u.2.1 r) x.toNatClampNeg y)) : Mw D m' r (sA u r x y) := by
  obtain ⟨h1, h2, h3, h4, h5, h6⟩ := h
  rcases h1 with rfl | rfl
  · exact ⟨Or.inl rfl, h2, h3.fm (b := [55]) (a := []) (c := []) (Fm.rf.sA rfl) rfl rfl, h4.fm (b := [55]) (a := []) (c := []) (Fm.rf.sA rfl) rfl rfl, hm, hr⟩
  · exact ⟨Or.inr rfl, h2, h3.fm (b := [56]) (a := []) (c := []) (Fm.rf.sA rfl) rfl rfl, h4.fm (b := [56]) (a := []) (c := []) (Fm.rf.sA rfl) rfl rfl, hm, hr⟩
theorem Mw.sF (h : Mw D m r u) {t x : Nat} (ht : t < dT D) (hx : x < dR D * dC D) : Mw D (mSF m t x) r (sA u r (nI t) (nI x)) := by
  have b := h.b
  obtain ⟨q1, q2, q3, q4, q5⟩ := h.2.2.2.2.2
  refine mw_sA h (OK_sF h.2.2.2.2.1 hx) ⟨fun j hj => ?_, fun j hj => ?_, fun j hj => ?_, ?_, ?_⟩ <;> rw [nI_clamp (by omega)]
  · show _ = nI (uN' (mF m) t x j)
    unfold uN'
    by_cases q : j = t
    · subst q; rw [pk_us, if_pos rfl]
    · rw [pk_un q, if_neg q]; exact q1 j hj
  · rw [pk_un (by omega)]; exact q2 j hj
  · rw [pk_un (by omega)]; exact q3 j hj
  · rw [pk_un (by omega)]; exact q4
  · rw [pk_un (by omega)]; exact q5
theorem Mw.sH (h : Mw D m r u) {t x : Nat} (ht : t < dT D) (hx : x < 5) : Mw D (mSH m t x) r (sA u r (nI (8 + t)) (nI x)) := by
  have b := h.b
  obtain ⟨q1, q2, q3, q4, q5⟩ := h.2.2.2.2.2
  refine mw_sA h (OK_sH h.2.2.2.2.1 hx) ⟨fun j hj => ?_, fun j hj => ?_, fun j hj => ?_, ?_, ?_⟩ <;> rw [nI_clamp (by omega)]
  · rw [pk_un (by omega)]; exact q1 j hj
  · show _ = nI (uN' (mH m) t x j)
    unfold uN'
    by_cases q : j = t
    · subst q; rw [pk_us, if_pos rfl]
    · rw [pk_un (by omega), if_neg q]; exact q2 j hj
  · rw [pk_un (by omega)]; exact q3 j hj
  · rw [pk_un (by omega)]; exact q4
  · rw [pk_un (by omega)]; exact q5
theorem Mw.sO (h : Mw D m r u) {p : Nat} {x : Option Nat} (hp : p < dP D) (hx : ∀ r, x = some r → r < dM D) : Mw D (mSO m p x) r (sA u r (nI (16 + p)) (hV x)) := by
  have b := h.b
  obtain ⟨q1, q2, q3, q4, q5⟩ := h.2.2.2.2.2
  refine mw_sA h (OK_sO h.2.2.2.2.1 hx) ⟨fun j hj => ?_, fun j hj => ?_, fun j hj => ?_, ?_, ?_⟩ <;> rw [nI_clamp (by omega)]
  · rw [pk_un (by omega)]; exact q1 j hj
  · rw [pk_un (by omega)]; exact q2 j hj
  · show _ = hV (uN' (mO m) p x j)
    unfold uN'
    by_cases q : j = p
    · subst q; rw [pk_us, if_pos rfl]
    · rw [pk_un (by omega), if_neg q]; exact q3 j hj
  · rw [pk_un (by omega)]; exact q4
  · rw [pk_un (by omega)]; exact q5
theorem Mw.sB (h : Mw D m r u) {x : Nat} (hx : x < 2 ^ dP D) : Mw D (mSB m x) r (sA u r 24 (nI x)) := by
  have b := h.b
  obtain ⟨q1, q2, q3, q4, q5⟩ := h.2.2.2.2.2
  refine mw_sA h (OK_sB h.2.2.2.2.1 hx) ⟨fun j hj => ?_, fun j hj => ?_, fun j hj => ?_, ?_, ?_⟩ <;> rw [show (24 : Int32).toNatClampNeg = 24 from rfl]
  · rw [pk_un (by omega)]; exact q1 j hj
  · rw [pk_un (by omega)]; exact q2 j hj
  · rw [pk_un (by omega)]; exact q3 j hj
  · rw [pk_us]; rfl
  · rw [pk_un (by omega)]; exact q5
theorem Mw.sT (h : Mw D m r u) {x : Int32} : Mw D (mST m x) r (sA u r 25 x) := by
  have b := h.b
  obtain ⟨q1, q2, q3, q4, q5⟩ := h.2.2.2.2.2
  refine mw_sA h (OK_sT h.2.2.2.2.1) ⟨fun j hj => ?_, fun j hj => ?_, fun j hj => ?_, ?_, ?_⟩ <;> rw [show (25 : Int32).toNatClampNeg = 25 from rfl]
  · rw [pk_un (by omega)]; exact q1 j hj
  · rw [pk_un (by omega)]; exact q2 j hj
  · rw [pk_un (by omega)]; exact q3 j hj
  · rw [pk_un (by omega)]; exact q4
  · rw [pk_us]; rfl
