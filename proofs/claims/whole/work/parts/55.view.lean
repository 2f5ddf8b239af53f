/-! loops -/
theorem lp {ρ σ : Type} (L : Nat → σ → US → Option ρ) (N : Nat) (Q : Nat → σ → US → Prop) (P : Option ρ → Prop) (hs : ∀ n k s u, k < N → Q k s u → (∃ s' v, Q (k + 1) s' v ∧ L (n + 1) s u = L n s' v) ∨ P (L (n + 1) s u)) (he : ∀ n s u, Q N s u → P (L (n + 1) s u)) : ∀ (f k : Nat) (s : σ) (u : US), N < f + k → k ≤ N → Q k s u → P (L f s u)
  | 0, k, s, u, h1, h2, _ => absurd h1 (by omega)
  | f + 1, k, s, u, h1, h2, hq => by
    by_cases e : k = N
    · subst e; exact he f s u hq
    · rcases hs f k s u (by omega) hq with ⟨s', v, hq', e2⟩ | hp
      · rw [e2]; exact lp L N Q P hs he f (k + 1) s' v (by omega) (by omega) hq'
      · exact hp
/-- a loop whose state is known -/
theorem lpS {ρ : Type} (L : Nat → Nat → Option ρ) (N : Nat) (r : Option ρ) (hs : ∀ n k, k < N → L (n + 1) k = L n (k + 1)) (he : ∀ n, L (n + 1) N = r) : ∀ (f k : Nat), N < f + k → k ≤ N → L f k = r
  | 0, k, h1, h2 => absurd h1 (by omega)
  | f + 1, k, h1, h2 => by
    by_cases e : k = N
    · subst e; exact he f
    · rw [hs f k (by omega)]; exact lpS L N r hs he f (k + 1) (by omega) (by omega)
theorem FUg {N : Nat} (h : N ≤ 4000) : N < FU + 0 := by unfold FU; omega
/-! views of the world: the class at a moment, the model at a moment -/
variable {D : DD} {m : MM} {e r : Nat} {u v : US}
def Cw (D : DD) (m : MM) (e : Nat) (u : US) : Prop := (e = 4 ∨ e = 6) ∧ DatO D ∧ DatC D u ∧ Rul D u ∧ MoOK D m ∧ MoC D m e u
def Mw (D : DD) (m : MM) (r : Nat) (u : US) : Prop := (r = 55 ∨ r = 56) ∧ DatO D ∧ DatM D u ∧ Rul D u ∧ MoOK D m ∧ MoM D m r u
theorem Wd.cw (h : Wd D m u) : Cw D m 4 u := ⟨Or.inl rfl, h.1, h.2.1, h.2.2.2.1, h.2.2.2.2.1, h.2.2.2.2.2.1⟩
theorem Wd.mw (h : Wd D m u) : Mw D m 55 u := ⟨Or.inl rfl, h.1, h.2.2.1, h.2.2.2.1, h.2.2.2.2.1, h.2.2.2.2.2.2⟩
theorem Cw.im (h : Cw D m e u) : isMom e = true := by rcases h.1 with rfl | rfl <;> rfl
theorem Cw.l0 (h : Cw D m e u) : ln (fpt e 0) = 8 := by rcases h.1 with rfl | rfl <;> rfl
theorem Cw.l1 (h : Cw D m e u) : ln (fpt e 1) = 8 := by rcases h.1 with rfl | rfl <;> rfl
theorem Cw.l2 (h : Cw D m e u) : ln (fpt e 2) = 8 := by rcases h.1 with rfl | rfl <;> rfl
theorem Mw.im (h : Mw D m r u) : okA r 20 = true := by rcases h.1 with rfl | rfl <;> rfl
theorem Mw.l (h : Mw D m r u) : ln r = 26 := by rcases h.1 with rfl | rfl <;> rfl
theorem Cw.b (h : Cw D m e u) : 1 ≤ dR D ∧ dR D ≤ 6 ∧ 1 ≤ dC D ∧ dC D ≤ 6 ∧ dT D ≤ 8 ∧ dP D ≤ 8 ∧ dM D ≤ 4 := h.2.1.1
theorem Mw.b (h : Mw D m r u) : 1 ≤ dR D ∧ dR D ≤ 6 ∧ 1 ≤ dC D ∧ dC D ≤ 6 ∧ dT D ≤ 8 ∧ dP D ≤ 8 ∧ dM D ≤ 4 := h.2.1.1
theorem Cw.xR (h : Cw D m e u) : gI u 3 0 = nI (dR D) := h.2.2.1.1.1
theorem Cw.xC (h : Cw D m e u) : gI u 3 1 = nI (dC D) := h.2.2.1.1.2.1
theorem Cw.xT (h : Cw D m e u) : gI u 3 2 = nI (dT D) := h.2.2.1.1.2.2.1
theorem Cw.xP (h : Cw D m e u) : gI u 3 3 = nI (dP D) := h.2.2.1.1.2.2.2.1
theorem Cw.xM (h : Cw D m e u) : gI u 3 4 = nI (dM D) := h.2.2.1.1.2.2.2.2
theorem Mw.xR (h : Mw D m r u) : gI u 47 3 = nI (dR D) := h.2.2.1.1.1
theorem Mw.xC (h : Mw D m r u) : gI u 47 4 = nI (dC D) := h.2.2.1.1.2.1
theorem Mw.xT (h : Mw D m r u) : gI u 47 5 = nI (dT D) := h.2.2.1.1.2.2.1
theorem Mw.xP (h : Mw D m r u) : gI u 47 6 = nI (dP D) := h.2.2.1.1.2.2.2.1
theorem Mw.xM (h : Mw D m r u) : gI u 47 7 = nI (dM D) := h.2.2.1.1.2.2.2.2
theorem rowg {n : Nat} {f : Nat → Int32} {g : Nat → Nat} (h : RowN n f g) {j : Nat} (hj : j < n) (hn : n ≤ 36) : f (nI j).toNatClampNeg = nI (g j) := by rw [nI_clamp (by omega)]; exact h j hj
theorem Cw.gk (h : Cw D m e u) {j : Nat} (hj : j < dT D) : gA u 16 (nI j) = nI (dk D j) := by have b := h.b; exact rowg h.2.2.1.2.1 hj (by omega)
theorem Cw.gs (h : Cw D m e u) {j : Nat} (hj : j < dT D) : gA u 17 (nI j) = nI (ds D j) := by have b := h.b; exact rowg h.2.2.1.2.2.1 hj (by omega)
theorem Cw.gl (h : Cw D m e u) {j : Nat} (hj : j < dP D) : gA u 18 (nI j) = nI (dl D j) := by have b := h.b; exact rowg h.2.2.1.2.2.2.1 hj (by omega)
theorem Cw.gh (h : Cw D m e u) {j : Nat} (hj : j < dP D) : gA u 19 (nI j) = nI (dh D j) := by have b := h.b; exact rowg h.2.2.1.2.2.2.2.1 hj (by omega)
theorem Cw.gp (h : Cw D m e u) {j : Nat} (hj : j < dM D) : gA u 20 (nI j) = nI (dp D j) := by have b := h.b; exact rowg h.2.2.1.2.2.2.2.2.1 hj (by omega)
theorem Cw.gg (h : Cw D m e u) {j : Nat} (hj : j < dM D) : gA u 21 (nI j) = nI (dg D j) := by have b := h.b; exact rowg h.2.2.1.2.2.2.2.2.2 hj (by omega)
theorem Mw.gk (h : Mw D m r u) {j : Nat} (hj : j < dT D) : gA u 49 (nI j) = nI (dk D j) := by have b := h.b; exact rowg h.2.2.1.2.1 hj (by omega)
theorem Mw.gs (h : Mw D m r u) {j : Nat} (hj : j < dT D) : gA u 50 (nI j) = nI (ds D j) := by have b := h.b; exact rowg h.2.2.1.2.2.1 hj (by omega)
theorem Mw.gl (h : Mw D m r u) {j : Nat} (hj : j < dP D) : gA u 51 (nI j) = nI (dl D j) := by have b := h.b; exact rowg h.2.2.1.2.2.2.1 hj (by omega)
theorem Mw.gh (h : Mw D m r u) {j : Nat} (hj : j < dP D) : gA u 52 (nI j) = nI (dh D j) := by have b := h.b; exact rowg h.2.2.1.2.2.2.2.1 hj (by omega)
theorem Mw.gp (h : Mw D m r u) {j : Nat} (hj : j < dM D) : gA u 53 (nI j) = nI (dp D j) := by have b := h.b; exact rowg h.2.2.1.2.2.2.2.2.1 hj (by omega)
theorem Mw.gg (h : Mw D m r u) {j : Nat} (hj : j < dM D) : gA u 54 (nI j) = nI (dg D j) := by have b := h.b; exact rowg h.2.2.1.2.2.2.2.2.2 hj (by omega)
theorem Cw.gF (h : Cw D m e u) {j : Nat} (hj : j < dT D) : gA u (fpt e 0) (nI j) = nI (mF m j) := by have b := h.b; exact rowg h.2.2.2.2.2.1 hj (by omega)
theorem Cw.gH (h : Cw D m e u) {j : Nat} (hj : j < dT D) : gA u (fpt e 1) (nI j) = nI (mH m j) := by have b := h.b; exact rowg h.2.2.2.2.2.2.1 hj (by omega)
theorem Cw.gO (h : Cw D m e u) {j : Nat} (hj : j < dP D) : gA u (fpt e 2) (nI j) = hV (mO m j) := by
  have b := h.b
  show u.2.1 (fpt e 2) (nI j).toNatClampNeg = _
  rw [nI_clamp (by omega)]; exact h.2.2.2.2.2.2.2.1 j hj
theorem Cw.gB (h : Cw D m e u) : gI u e 3 = nI (mB m) := h.2.2.2.2.2.2.2.2.1
theorem Cw.gT (h : Cw D m e u) : gI u e 4 = mT m := h.2.2.2.2.2.2.2.2.2
theorem ad8 (t : Nat) : (8 : Int32) + nI t = nI (8 + t) := nI_add 8 t
theorem ad16 (t : Nat) : (16 : Int32) + nI t = nI (16 + t) := nI_add 16 t
theorem Mw.gF (h : Mw D m r u) {j : Nat} (hj : j < dT D) : gA u r (nI j) = nI (mF m j) := by
  have b := h.b
  show u.2.1 r (nI j).toNatClampNeg = _
  rw [nI_clamp (by omega)]; exact h.2.2.2.2.2.1 j hj
theorem Mw.gH (h : Mw D m r u) {j : Nat} (hj : j < dT D) : gA u r (nI (8 + j)) = nI (mH m j) := by
  have b := h.b
  show u.2.1 r (nI (8 + j)).toNatClampNeg = _
  rw [nI_clamp (by omega)]; exact h.2.2.2.2.2.2.1 j hj
theorem Mw.gO (h : Mw D m r u) {j : Nat} (hj : j < dP D) : gA u r (nI (16 + j)) = hV (mO m j) := by
  have b := h.b
  show u.2.1 r (nI (16 + j)).toNatClampNeg = _
  rw [nI_clamp (by omega)]; exact h.2.2.2.2.2.2.2.1 j hj
theorem Mw.gB (h : Mw D m r u) : gA u r 24 = nI (mB m) := h.2.2.2.2.2.2.2.2.1
theorem Mw.gT (h : Mw D m r u) : gA u r 25 = mT m := h.2.2.2.2.2.2.2.2.2
theorem Cw.sx (h : Cw D m e u) (f : Sx u v) : Cw D m e v := by
  refine ⟨h.1, h.2.1, h.2.2.1.fm f rfl rfl, h.2.2.2.1.fm f rfl rfl, h.2.2.2.2.1, ?_⟩
  rcases h.1 with rfl | rfl <;> exact h.2.2.2.2.2.fm f rfl rfl
theorem Mw.sx (h : Mw D m r u) (f : Sx u v) : Mw D m r v := by
  refine ⟨h.1, h.2.1, h.2.2.1.fm f rfl rfl, h.2.2.2.1.fm f rfl rfl, h.2.2.2.2.1, ?_⟩
  rcases h.1 with rfl | rfl <;> exact h.2.2.2.2.2.fm f rfl
theorem hV_eq {o : Option Nat} {a : Nat} (ha : a < 2 ^ 31) (ho : ∀ q, o = some q → q < 2 ^ 31) : hV o = nI a ↔ o = some a := by
  cases o with
  | none =>
    refine ⟨fun q => ?_, fun q => by cases q⟩
    have := congrArg Int32.toInt q
    rw [nI_toInt ha] at this
    have h2 : (hV none).toInt = -1 := rfl
    omega
  | some b =>
    show nI b = nI a ↔ _
    rw [nI_eq (ho b rfl) ha]
    exact ⟨fun h => by rw [h], fun h => Option.some.inj h⟩
theorem hV_m1 {o : Option Nat} (ho : ∀ q, o = some q → q < 2 ^ 31) : hV o = -1 ↔ o = none := by
  cases o with
  | none => exact ⟨fun _ => rfl, fun _ => rfl⟩
  | some b =>
    refine ⟨fun q => ?_, fun q => by cases q⟩
    have := congrArg Int32.toInt (show nI b = -1 from q)
    rw [nI_toInt (ho b rfl)] at this
    have h2 : (-1 : Int32).toInt = -1 := rfl
    omega
theorem hV_lt0 {o : Option Nat} (ho : ∀ q, o = some q → q < 2 ^ 31) : hV o < 0 ↔ o = none := by
  cases o with
  | none => exact ⟨fun _ => rfl, fun _ => by decide⟩
  | some b => exact ⟨fun q => absurd q (nI_pos (ho b rfl)), fun q => by cases q⟩
theorem hV_ge0 {o : Option Nat} (ho : ∀ q, o = some q → q < 2 ^ 31) : 0 ≤ hV o ↔ ¬ o = none := by
  rw [← hV_lt0 ho, n_lt]
theorem MoOK.oo (h : MoOK D m) (hd : DatO D) {p : Nat} (hp : p < dP D) : ∀ q, mO m p = some q → q < 2 ^ 31 := fun q hq => by
  have := h.2.2.1 p hp q hq
  have b := hd.1.2.2.2.2.2.2
  omega
theorem Cw.oo (h : Cw D m e u) {p : Nat} (hp : p < dP D) : ∀ q, mO m p = some q → q < 2 ^ 31 := h.2.2.2.2.1.oo h.2.1 hp
theorem Mw.oo (h : Mw D m r u) {p : Nat} (hp : p < dP D) : ∀ q, mO m p = some q → q < 2 ^ 31 := h.2.2.2.2.1.oo h.2.1 hp
theorem DatO.RC (h : DatO D) : dR D * dC D ≤ 36 := Nat.mul_le_mul h.1.2.1 h.1.2.2.2.1
