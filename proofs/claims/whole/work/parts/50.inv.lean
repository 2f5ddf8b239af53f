/-! THE INVARIANT between class part and model part, and the first steps -/
def ITx (a b : Int32) (f g : Nat → Int32) : Prop := ∃ k : Nat, k ≤ 80 ∧ a = nI k ∧ b = nI k ∧ ∀ j, j < k → f j = g j ∧ ∃ c : Nat, c < 256 ∧ f j = nI c
def IDim (R C nt np nr : Nat) : Prop := 1 ≤ R ∧ R ≤ 6 ∧ 1 ≤ C ∧ C ≤ 6 ∧ nt ≤ 8 ∧ np ≤ 8 ∧ nr ≤ 4
/-- the first n places are alike, and below b -/
def IRow (n b : Nat) (f g : Nat → Int32) : Prop := ∀ j, j < n → f j = g j ∧ ∃ c : Nat, c < b ∧ f j = nI c
/-- a moment as 26 numbers: fields, headings, homes, broken, hour -/
def MomOK (R C nt np nr : Nat) (f : Nat → Int32) : Prop := (∀ t, t < nt → ∃ a : Nat, a < R * C ∧ f t = nI a) ∧ (∀ t, t < nt → ∃ a : Nat, a < 5 ∧ f (8 + t) = nI a) ∧ (∀ p, p < np → f (16 + p) = -1 ∨ ∃ a : Nat, a < nr ∧ f (16 + p) = nI a) ∧ ∃ b : Nat, b < 2 ^ np ∧ f 24 = nI b
def MomEq (nt np : Nat) (f g : Nat → Int32) : Prop := (∀ t, t < nt → f t = g t ∧ f (8 + t) = g (8 + t)) ∧ (∀ p, p < np → f (16 + p) = g (16 + p)) ∧ f 24 = g 24 ∧ f 25 = g 25
/-- the class's moment in three rows and two fields -/
def cMom (fd hd hm : Nat → Int32) (br hr : Int32) (k : Nat) : Int32 := if k < 8 then fd k else if k < 16 then hd (k - 8) else if k < 24 then hm (k - 16) else if k = 24 then br else hr
def ITold (a b : Int32) (f g : Nat → Int64) : Prop := ∃ k : Nat, k ≤ 36 ∧ a = nI k ∧ b = nI k ∧ ∀ j, j < k → f j = g j
def IWit (a b : Int32) (k1 k2 s1 s2 w1 w2 : Nat → Int32) : Prop := ∃ k : Nat, k ≤ 12 ∧ a = nI k ∧ b = nI k ∧ IRow k 8 k1 k2 ∧ IRow k 10 s1 s2 ∧ IRow k 2 w1 w2
def slotF (f : Nat → Int32) (j : Nat) : Nat → Int32 := fun i => f (26 * j + i)
def IPast (R C nt np nr : Nat) (a b : Int32) (f g : Nat → Int32) : Prop := ∃ k : Nat, k ≤ 15 ∧ a = nI k ∧ b = nI k ∧ ∀ j, j < k → MomOK R C nt np nr (slotF f j) ∧ MomEq nt np (slotF f j) (slotF g j)
def IKept (n R C nt np nr : Nat) (kept chg : Int32) (f isK kc g : Nat → Int32) : Prop := ∃ c kb : Nat, c ≤ n ∧ chg = nI c ∧ kb < 8 ∧ kept = nI kb ∧ ∀ i, i < 3 → (isK i = 0 ∨ isK i = 1) ∧ (∃ d : Nat, d ≤ c ∧ kc i = nI d) ∧ (kb.testBit i = true ↔ (isK i = 1 ∧ kc i = chg)) ∧ (kb.testBit i = true → MomOK R C nt np nr (slotF f i) ∧ MomEq nt np (slotF f i) (slotF g i))
/-- hours stay small: now, undo slots, kept slots -/
def IHr (n : Nat) (hr : Int32) (uf kf : Nat → Int32) : Prop := (∃ h : Nat, h ≤ 300 * n ∧ hr = nI h) ∧ (∀ j, j < 15 → ∃ h : Nat, h ≤ 300 * n ∧ uf (26 * j + 25) = nI h) ∧ (∀ j, j < 3 → ∃ h : Nat, h ≤ 300 * n ∧ kf (26 * j + 25) = nI h)
theorem IHr_mono {n : Nat} {hr : Int32} {uf kf : Nat → Int32} (h : IHr n hr uf kf) : IHr (n + 1) hr uf kf := by
  obtain ⟨⟨a, ha, e⟩, h2, h3⟩ := h
  refine ⟨⟨a, by omega, e⟩, fun j hj => ?_, fun j hj => ?_⟩
  · obtain ⟨b, hb, e⟩ := h2 j hj; exact ⟨b, by omega, e⟩
  · obtain ⟨b, hb, e⟩ := h3 j hj; exact ⟨b, by omega, e⟩
/-! rules: postfix code on both sides. Inputs: limit hides kind shame hour -/
def nmC (c l h k s t : Int32) : Int32 := if c = 107 then k else if c = 115 then s else if c = 108 then l else if c = 104 then (ush h k) &&& 1 else if c = 110 then (match fJ6_bitCount_0f7a4 h (fun _ _ => 0, fun _ _ => 0, fun _ _ => 0, fun _ => 0) with | some r => r.1 | none => 0) else t - t / 24 * 24
def isNm (c : Int32) : Bool := c == 107 || c == 115 || c == 108 || c == 104 || c == 110 || c == 116
def jnC (c a b : Int32) : Int32 := if c = 43 then a + b else if c = 45 then a - b else if c = 42 then a * b else if c = 47 then (if b = 0 then 0 else a / b) else if c = 60 then (if a < b then 1 else 0) else if c = 62 then (if b < a then 1 else 0) else (if a = b then 1 else 0)
def evC (l h k s t : Int32) : List Int32 → List Int32 → Option (List Int32)
  | [], st => some st
  | c :: cs, st => if c = 126 then (match st with | x :: r => evC l h k s t cs (-x :: r) | [] => none) else if 1000 ≤ c then evC l h k s t cs ((c - 1000) :: st) else if isNm c then evC l h k s t cs (nmC c l h k s t :: st) else (match st with | b :: a :: r => evC l h k s t cs (jnC c a b :: r) | _ => none)
def wkM (c a b : Int32) : Int32 := if c = 0 then (if a < b then 1 else 0) else if c = 1 then (if b < a then 1 else 0) else if c = 2 then (if a = b then 1 else 0) else if c = 3 then a + b else if c = 4 then a - b else if c = 5 then a * b else (if b = 0 then 0 else a / b)
def nmM (c l h k s t : Int32) : Int32 := if c = 0 then k else if c = 1 then s else if c = 2 then l else if c = 3 then (h >>> (k &&& 31)) &&& 1 else if c = 4 then nmC 110 l h k s t else t - t / 24 * 24
def evM (l h k s t : Int32) : List Int32 → List Int32 → Option (List Int32)
  | [], st => some st
  | c :: cs, st => if c = 3000 then (match st with | x :: r => evM l h k s t cs (-x :: r) | [] => none) else if 2000 ≤ c then (match st with | b :: a :: r => evM l h k s t cs (wkM (c - 2000) a b :: r) | _ => none) else if 1000 ≤ c then (if 1005 < c then none else evM l h k s t cs (nmM (c - 1000) l h k s t :: st)) else evM l h k s t cs (c :: st)
def codL (f : Nat → Int32) (n : Nat) : List Int32 := (List.range n).map f
/-- both codes are empty, or both leave one number, the same, for all inputs that occur -/
def RuleRel (cs ms : List Int32) : Prop := (cs = [] ∧ ms = []) ∨ (cs ≠ [] ∧ ms ≠ [] ∧ ∀ l h k s t : Int32, (∃ a : Nat, a < 10 ∧ l = nI a) → (∃ a : Nat, a < 256 ∧ h = nI a) → (∃ a : Nat, a < 8 ∧ k = nI a) → (∃ a : Nat, a < 10 ∧ s = nI a) → ∃ x, evC l h k s t cs [] = some [x] ∧ evM l h k s t ms [] = some [x])
def IRul (r0 r1 : Nat) (nA nB nM : Int32) (cA cB m : Nat → Int32) : Prop := ∃ a b k : Nat, a ≤ 40 ∧ b ≤ 40 ∧ k ≤ 80 ∧ nA = nI a ∧ nB = nI b ∧ nM = nI k ∧ ((r0 = 13 ∧ r1 = 14 ∧ RuleRel (codL cA a) (codL m k)) ∨ (r0 = 14 ∧ r1 = 13 ∧ RuleRel (codL cB b) (codL m k)))
def InvD (n : Nat) (u : US) (R C nt np nr : Nat) : Prop :=
  IDim R C nt np nr ∧ (u.1 3 0 = nI R ∧ u.1 47 3 = nI R ∧ u.1 3 1 = nI C ∧ u.1 47 4 = nI C ∧ u.1 3 2 = nI nt ∧ u.1 47 5 = nI nt ∧ u.1 3 3 = nI np ∧ u.1 47 6 = nI np ∧ u.1 3 4 = nI nr ∧ u.1 47 7 = nI nr) ∧
  ITx (u.1 1 1) (u.1 47 18) (u.2.1 15) (u.2.1 57) ∧
  (IRow nt 8 (u.2.1 16) (u.2.1 49) ∧ IRow nt 10 (u.2.1 17) (u.2.1 50) ∧ IRow np 10 (u.2.1 18) (u.2.1 51) ∧ IRow np 256 (u.2.1 19) (u.2.1 52) ∧ IRow nr (R * C) (u.2.1 20) (u.2.1 53) ∧ IRow nr 10 (u.2.1 21) (u.2.1 54)) ∧
  (MomOK R C nt np nr (cMom (u.2.1 22) (u.2.1 23) (u.2.1 24) (u.1 4 3) (u.1 4 4)) ∧ MomEq nt np (cMom (u.2.1 22) (u.2.1 23) (u.2.1 24) (u.1 4 3) (u.1 4 4)) (u.2.1 55)) ∧
  IRul (u.2.2.2 0) (u.2.2.2 1) (u.1 13 2) (u.1 14 2) (u.1 47 26) (u.2.1 43) (u.2.1 45) (u.2.1 59) ∧
  IPast R C nt np nr (u.1 7 3) (u.1 47 30) (u.2.1 31) (u.2.1 63) ∧ (IKept n R C nt np nr (u.1 7 2) (u.1 47 8) (u.2.1 32) (u.2.1 82) (u.2.1 83) (u.2.1 84) ∧ IHr n (u.1 4 4) (u.2.1 31) (u.2.1 32)) ∧
  ITold (u.1 8 1) (u.1 47 1) (u.2.2.1 33) (u.2.2.1 48) ∧ IWit (u.1 11 3) (u.1 47 43) (u.2.1 36) (u.2.1 74) (u.2.1 37) (u.2.1 75) (u.2.1 38) (u.2.1 76)
def Inv (n : Nat) (u : US) : Prop := ∃ R C nt np nr : Nat, InvD n u R C nt np nr
theorem IKept_mono {n R C nt np nr : Nat} {kept chg : Int32} {f isK kc g : Nat → Int32} {hr : Int32} {uf kf : Nat → Int32} (h : IKept n R C nt np nr kept chg f isK kc g ∧ IHr n hr uf kf) : IKept (n + 1) R C nt np nr kept chg f isK kc g ∧ IHr (n + 1) hr uf kf := by
  obtain ⟨⟨c, kb, h1, h2⟩, h3⟩ := h
  exact ⟨⟨c, kb, by omega, h2⟩, IHr_mono h3⟩
theorem Inv_mono (n : Nat) (u : US) (h : Inv n u) : Inv (n + 1) u := by
  obtain ⟨R, C, nt, np, nr, h1, h2, h3, h4, h5, h6, h7, h8, h9, h10⟩ := h
  exact ⟨R, C, nt, np, nr, h1, h2, h3, h4, h5, h6, h7, IKept_mono h8, h9, h10⟩
theorem Inv_0 : Inv 0 u0 := by
  refine ⟨1, 1, 0, 0, 0, ⟨by omega, by omega, by omega, by omega, by omega, by omega, by omega⟩, ⟨rfl, rfl, rfl, rfl, rfl, rfl, rfl, rfl, rfl, rfl⟩, ⟨0, by omega, rfl, rfl, fun j hj => by omega⟩, ⟨fun j hj => by omega, fun j hj => by omega, fun j hj => by omega, fun j hj => by omega, fun j hj => by omega, fun j hj => by omega⟩, ⟨⟨fun j hj => by omega, fun j hj => by omega, fun j hj => by omega, 0, by decide, rfl⟩, fun j hj => by omega, fun j hj => by omega, rfl, rfl⟩, ⟨0, 0, 0, by omega, by omega, by omega, rfl, rfl, rfl, Or.inl ⟨rfl, rfl, Or.inl ⟨rfl, rfl⟩⟩⟩, ⟨0, by omega, rfl, rfl, fun j hj => by omega⟩, ⟨⟨0, 0, by omega, rfl, by omega, rfl, fun i hi => ⟨Or.inl rfl, ⟨0, by omega, rfl⟩, ⟨fun h => by simp at h, fun h => ?_⟩, fun h => by simp at h⟩⟩, ⟨0, by omega, rfl⟩, fun j hj => ⟨0, by omega, rfl⟩, fun j hj => ⟨0, by omega, rfl⟩⟩, ⟨0, by omega, rfl, rfl, fun j hj => by omega⟩, ⟨0, by omega, rfl, rfl, fun j hj => by omega, fun j hj => by omega, fun j hj => by omega⟩⟩
  have h1 : (0 : Int32) = 1 := h.1
  exact absurd h1 (by decide)
theorem st_31 : St_31 Inv := by
  intro n u hn hI
  obtain ⟨R, C, nt, np, nr, h1, h2, h3, h4, h5, h6, h7, h8, h9, k, hk, ha, hb, hw⟩ := hI
  refine ⟨nI k, sI u 11 3 0, sI (sI (sI u 11 3 0) 47 0 0) 47 43 0, ?_, ?_, R, C, nt, np, nr, h1, h2, h3, h4, h5, h6, h7, IKept_mono h8, h9, 0, by omega, rfl, rfl, fun j hj => by omega, fun j hj => by omega, fun j hj => by omega⟩
  · show some (u.1 11 3, sI u 11 3 0) = _
    rw [ha]
  · show some (u.1 47 43, sI (sI (sI u 11 3 0) 47 0 0) 47 43 0) = _
    rw [hb]
theorem lgc_lt (x y : Int64) : lg_cmp x y < 0 ↔ x < y := by
  unfold lg_cmp
  by_cases h1 : x > y
  · rw [if_pos h1]
    exact ⟨fun h => absurd h (by decide), fun h => by rw [Int64.lt_iff_toInt_lt] at h; rw [gt_iff_lt, Int64.lt_iff_toInt_lt] at h1; omega⟩
  · rw [if_neg h1]
    by_cases h2 : x = y
    · rw [if_pos h2]
      exact ⟨fun h => absurd h (by decide), fun h => by subst h2; rw [Int64.lt_iff_toInt_lt] at h; omega⟩
    · rw [if_neg h2]
      refine ⟨fun _ => ?_, fun _ => by decide⟩
      rw [gt_iff_lt, Int64.lt_iff_toInt_lt] at h1
      rw [← Int64.toInt_inj] at h2
      rw [Int64.lt_iff_toInt_lt]
      omega
theorem lgc_gt (x y : Int64) : 0 < lg_cmp x y ↔ y < x := by
  unfold lg_cmp
  by_cases h1 : x > y
  · rw [if_pos h1]
    exact ⟨fun _ => h1, fun _ => by decide⟩
  · rw [if_neg h1]
    by_cases h2 : x = y
    · rw [if_pos h2]
      exact ⟨fun h => absurd h (by decide), fun h => absurd h h1⟩
    · rw [if_neg h2]
      exact ⟨fun h => absurd h (by decide), fun h => absurd h h1⟩
theorem tl_lt (x y : Int32) : x.toInt64 < y.toInt64 ↔ x < y := by rw [Int64.lt_iff_toInt_lt, Int32.lt_iff_toInt_lt, Int32.toInt_toInt64, Int32.toInt_toInt64]
theorem n_lt {a b : Int32} : ¬ a < b ↔ b ≤ a := by rw [Int32.lt_iff_toInt_lt, Int32.le_iff_toInt_le]; omega
/-- in(v, a, b) of the model, on ints -/
theorem in_long (v a b : Int32) (u : US) : fX12_in v.toInt64 a.toInt64 b.toInt64 u = some (if a ≤ v ∧ v ≤ b then 1 else 0, u) := by
  unfold fX12_in
  simp only [lgc_lt, lgc_gt, tl_lt]
  by_cases h1 : v < a
  · rw [if_pos h1, if_neg (fun h => absurd h1 (n_lt.mpr h.1))]
  · rw [if_neg h1]
    by_cases h2 : b < v
    · rw [if_pos h2, if_neg (fun h => absurd h2 (n_lt.mpr h.2))]
    · rw [if_neg h2, if_pos ⟨n_lt.mp h1, n_lt.mp h2⟩]
theorem nI_le' {a b : Nat} (ha : a < 2 ^ 31) (hb : b < 2 ^ 31) : nI a ≤ nI b ↔ a ≤ b := nI_leI ha hb
theorem st_1 : St_1 Inv := by
  intro n v u hn hI
  obtain ⟨R, C, nt, np, nr, h1, h2, ⟨k, hk, ha, hb, ht⟩, h4, h5, h6, h7, h8, h9, h10⟩ := hI
  have e0 : fX12_in v.toInt64 0 (gI u 47 18).toInt64 = fX12_in v.toInt64 (0 : Int32).toInt64 (gI u 47 18).toInt64 := rfl
  by_cases hv : 0 ≤ v ∧ v ≤ nI k
  · obtain ⟨j, hj, rfl⟩ : ∃ j : Nat, j ≤ k ∧ v = nI j := nI_of2 (M := nI k) (nI_toInt (by omega)) (n_lt.mpr hv.1) hv.2
    refine ⟨1, sI u 1 1 (nI j), sI (sI (sI u 1 1 (nI j)) 47 0 0) 47 18 (nI j), ?_, ?_, R, C, nt, np, nr, h1, h2, ⟨j, by omega, rfl, rfl, fun i hi => ht i (by omega)⟩, h4, h5, h6, h7, IKept_mono h8, h9, h10⟩
    · unfold fX11_end fX7_cut
      rw [if_neg (n_lt.mpr hv.1), show gI u 1 1 = nI k from ha, if_pos hv.2]
      rfl
    · simp only [fX12_end, nx]
      rw [show gI (sI (sI u 1 1 (nI j)) 47 0 0) 47 18 = nI k from hb, show (0 : Int64) = (0 : Int32).toInt64 from rfl, in_long, if_pos hv]
      rfl
  · refine ⟨0, u, sI u 47 0 0, ?_, ?_, R, C, nt, np, nr, h1, h2, ⟨k, hk, ha, hb, ht⟩, h4, h5, h6, h7, IKept_mono h8, h9, h10⟩
    · unfold fX11_end fX7_cut
      rw [show gI u 1 1 = nI k from ha]
      by_cases hn0 : v < 0
      · rw [if_pos hn0]; rfl
      · rw [if_neg hn0, if_neg (fun h => hv ⟨n_lt.mp hn0, h⟩)]; rfl
    · simp only [fX12_end, nx]
      rw [show gI (sI u 47 0 0) 47 18 = nI k from hb, show (0 : Int64) = (0 : Int32).toInt64 from rfl, in_long, if_neg hv]
      rfl
theorem st_43 : St_43 Inv := by
  intro n v u hn hI
  obtain ⟨R, C, nt, np, nr, h1, h2, h3, h4, h5, h6, h7, h8, ⟨k, hk, ha, hb, ht⟩, h10⟩ := hI
  have e9 : (((gI (sI u 47 0 0) 47 1) - 1 : Int32)) = nI k - 1 := by rw [show gI (sI u 47 0 0) 47 1 = nI k from hb]
  by_cases hv : 0 ≤ v ∧ v < nI k
  · obtain ⟨j, hj, rfl⟩ : ∃ j : Nat, j < k ∧ v = nI j := by
      obtain ⟨j, hj, rfl⟩ := nI_of (n_lt.mpr hv.1)
      exact ⟨j, (nI_ltI hj (by omega)).mp hv.2, rfl⟩
    have hin : inb (nI j) 36 = true := by
      unfold inb
      simp only [Bool.and_eq_true, decide_eq_true_eq]
      rw [nI_clamp (by omega)]
      exact ⟨nI_pos' (by omega), by omega⟩
    refine ⟨some (u.2.2.1 33 j), u, u.2.2.1 48 j, sI (sJ u 85 0 (u.2.2.1 33 j)) 47 0 0, 0, sI (sJ u 85 0 (u.2.2.1 33 j)) 47 0 0, ?_, ?_, rfl, rfl, ?_, R, C, nt, np, nr, h1, h2, h3, h4, h5, h6, h7, IKept_mono h8, ⟨k, hk, ha, hb, ht⟩, h10⟩
    · unfold fX11_row
      rw [if_neg (n_lt.mpr hv.1), show gI u 8 1 = nI k from ha, if_pos hv.2, hin]
      show some (some (u.2.2.1 33 (nI j).toNatClampNeg), u) = _
      rw [nI_clamp (by omega)]
    · have hle : nI j ≤ nI k - 1 := by
        rw [Int32.le_iff_toInt_le, nI_toInt (by omega), show (nI k - 1).toInt = (k : Int) - 1 from pk_sub_toInt (b := 1) (by omega) (by omega)]
        omega
      simp only [fX12_row, nx, wLl]
      rw [show gI (sI (sJ u 85 0 (u.2.2.1 33 j)) 47 0 0) 47 1 = nI k from hb, show (0 : Int64) = (0 : Int32).toInt64 from rfl, in_long, if_pos ⟨hv.1, hle⟩, hin]
      show some (u.2.2.1 48 (nI j).toNatClampNeg, _) = _
      rw [nI_clamp (by omega)]
    · intro w hw
      cases hw
      show u.2.2.1 33 j = u.2.2.1 48 j
      exact ht j hj
  · refine ⟨none, u, 0, sI (sI u 47 0 0) 47 0 1, 1, sI (sI u 47 0 0) 47 0 1, ?_, ?_, rfl, rfl, (fun v hv => (by cases hv)), R, C, nt, np, nr, h1, h2, h3, h4, h5, h6, h7, IKept_mono h8, ⟨k, hk, ha, hb, ht⟩, h10⟩
    · unfold fX11_row
      rw [show gI u 8 1 = nI k from ha]
      by_cases hn0 : v < 0
      · rw [if_pos hn0]
      · rw [if_neg hn0, if_neg (fun h => hv ⟨n_lt.mp hn0, h⟩)]
    · simp only [fX12_row, nx, wLl]
      rw [show gI (sI u 47 0 0) 47 1 = nI k from hb, show (0 : Int64) = (0 : Int32).toInt64 from rfl, in_long, if_neg ?_]
      · rfl
      · intro h
        refine hv ⟨h.1, ?_⟩
        have h2 := h.2
        have h3 := h.1
        rw [Int32.le_iff_toInt_le] at h2 h3
        rw [Int32.lt_iff_toInt_lt, nI_toInt (by omega)]
        have e : (nI k - 1).toInt = (k : Int) - 1 := pk_sub_toInt (b := 1) (by omega) (by omega)
        rw [e] at h2
        omega
