/-! the data that both sides hold, as plain numbers -/
abbrev DD : Type := (Nat × Nat × Nat × Nat × Nat) × (Nat → Nat) × (Nat → Nat) × (Nat → Nat) × (Nat → Nat) × (Nat → Nat) × (Nat → Nat) × (Nat → Nat → Nat → Nat → Int32 → Bool)
def dR (D : DD) : Nat := D.1.1
def dC (D : DD) : Nat := D.1.2.1
def dT (D : DD) : Nat := D.1.2.2.1
def dP (D : DD) : Nat := D.1.2.2.2.1
def dM (D : DD) : Nat := D.1.2.2.2.2
def dk (D : DD) : Nat → Nat := D.2.1
def ds (D : DD) : Nat → Nat := D.2.2.1
def dl (D : DD) : Nat → Nat := D.2.2.2.1
def dh (D : DD) : Nat → Nat := D.2.2.2.2.1
def dp (D : DD) : Nat → Nat := D.2.2.2.2.2.1
def dg (D : DD) : Nat → Nat := D.2.2.2.2.2.2.1
def dr (D : DD) : Nat → Nat → Nat → Nat → Int32 → Bool := D.2.2.2.2.2.2.2
def RowN (n : Nat) (f : Nat → Int32) (g : Nat → Nat) : Prop := ∀ j, j < n → f j = nI (g j)
def DatO (D : DD) : Prop := IDim (dR D) (dC D) (dT D) (dP D) (dM D) ∧ (∀ j, j < dT D → dk D j < 8) ∧ (∀ j, j < dT D → ds D j < 10) ∧ (∀ j, j < dP D → dl D j < 10) ∧ (∀ j, j < dP D → dh D j < 256) ∧ (∀ j, j < dM D → dp D j < dR D * dC D) ∧ (∀ j, j < dM D → dg D j < 10)
def DatC (D : DD) (u : US) : Prop := (u.1 3 0 = nI (dR D) ∧ u.1 3 1 = nI (dC D) ∧ u.1 3 2 = nI (dT D) ∧ u.1 3 3 = nI (dP D) ∧ u.1 3 4 = nI (dM D)) ∧ RowN (dT D) (u.2.1 16) (dk D) ∧ RowN (dT D) (u.2.1 17) (ds D) ∧ RowN (dP D) (u.2.1 18) (dl D) ∧ RowN (dP D) (u.2.1 19) (dh D) ∧ RowN (dM D) (u.2.1 20) (dp D) ∧ RowN (dM D) (u.2.1 21) (dg D)
def DatM (D : DD) (u : US) : Prop := (u.1 47 3 = nI (dR D) ∧ u.1 47 4 = nI (dC D) ∧ u.1 47 5 = nI (dT D) ∧ u.1 47 6 = nI (dP D) ∧ u.1 47 7 = nI (dM D)) ∧ RowN (dT D) (u.2.1 49) (dk D) ∧ RowN (dT D) (u.2.1 50) (ds D) ∧ RowN (dP D) (u.2.1 51) (dl D) ∧ RowN (dP D) (u.2.1 52) (dh D) ∧ RowN (dM D) (u.2.1 53) (dp D) ∧ RowN (dM D) (u.2.1 54) (dg D)
/-- the rule as the model's code tells it -/
def rlV (ms : List Int32) (l h k s : Nat) (t : Int32) : Bool := match ms with
  | [] => !h.testBit k && decide (s ≤ l)
  | c :: cs => match evM (nI l) (nI h) (nI k) (nI s) t (c :: cs) [] with
    | some [x] => x != 0
    | _ => false
def Rul (D : DD) (u : US) : Prop := IRul (u.2.2.2 0) (u.2.2.2 1) (u.1 13 2) (u.1 14 2) (u.1 47 26) (u.2.1 43) (u.2.1 45) (u.2.1 59) ∧ ∃ k : Nat, k ≤ 80 ∧ u.1 47 26 = nI k ∧ dr D = rlV (codL (u.2.1 59) k)
/-! moments: field, heading, home, broken, hour -/
abbrev MM : Type := (Nat → Nat) × (Nat → Nat) × (Nat → Option Nat) × Nat × Int32
def mF (m : MM) : Nat → Nat := m.1
def mH (m : MM) : Nat → Nat := m.2.1
def mO (m : MM) : Nat → Option Nat := m.2.2.1
def mB (m : MM) : Nat := m.2.2.2.1
def mT (m : MM) : Int32 := m.2.2.2.2
def hV : Option Nat → Int32
  | none => -1
  | some r => nI r
def MoOK (D : DD) (m : MM) : Prop := (∀ t, t < dT D → mF m t < dR D * dC D) ∧ (∀ t, t < dT D → mH m t < 5) ∧ (∀ p, p < dP D → ∀ r, mO m p = some r → r < dM D) ∧ mB m < 2 ^ dP D
def isMo (D : DD) (m : MM) (f : Nat → Int32) : Prop := (∀ t, t < dT D → f t = nI (mF m t)) ∧ (∀ t, t < dT D → f (8 + t) = nI (mH m t)) ∧ (∀ p, p < dP D → f (16 + p) = hV (mO m p)) ∧ f 24 = nI (mB m) ∧ f 25 = mT m
def MoC (D : DD) (m : MM) (c : Nat) (u : US) : Prop := RowN (dT D) (u.2.1 (fpt c 0)) (mF m) ∧ RowN (dT D) (u.2.1 (fpt c 1)) (mH m) ∧ (∀ p, p < dP D → u.2.1 (fpt c 2) p = hV (mO m p)) ∧ u.1 c 3 = nI (mB m) ∧ u.1 c 4 = mT m
def MoM (D : DD) (m : MM) (r : Nat) (u : US) : Prop := isMo D m (u.2.1 r)
def Wd (D : DD) (m : MM) (u : US) : Prop := DatO D ∧ DatC D u ∧ DatM D u ∧ Rul D u ∧ MoOK D m ∧ MoC D m 4 u ∧ MoM D m 55 u
/-! through frames -/
theorem DatC.fm {D : DD} {u v : US} {a : List (Nat × Nat)} {b c : List Nat} (h : DatC D u) (f : Fm a b c u v) (q : [(3, 0), (3, 1), (3, 2), (3, 3), (3, 4)].all (fun x => !a.contains x) = true) (q2 : [16, 17, 18, 19, 20, 21].all (fun x => !b.contains x) = true) : DatC D v := by
  simp only [List.all_cons, List.all_nil, Bool.and_true, Bool.and_eq_true, Bool.not_eq_true'] at q q2
  obtain ⟨a0, a1, a2, a3, a4⟩ := q
  obtain ⟨b0, b1, b2, b3, b4, b5⟩ := q2
  unfold DatC
  rw [f.i 3 0 a0, f.i 3 1 a1, f.i 3 2 a2, f.i 3 3 a3, f.i 3 4 a4, f.a 16 b0, f.a 17 b1, f.a 18 b2, f.a 19 b3, f.a 20 b4, f.a 21 b5]
  exact h
theorem DatM.fm {D : DD} {u v : US} {a : List (Nat × Nat)} {b c : List Nat} (h : DatM D u) (f : Fm a b c u v) (q : [(47, 3), (47, 4), (47, 5), (47, 6), (47, 7)].all (fun x => !a.contains x) = true) (q2 : [49, 50, 51, 52, 53, 54].all (fun x => !b.contains x) = true) : DatM D v := by
  simp only [List.all_cons, List.all_nil, Bool.and_true, Bool.and_eq_true, Bool.not_eq_true'] at q q2
  obtain ⟨a0, a1, a2, a3, a4⟩ := q
  obtain ⟨b0, b1, b2, b3, b4, b5⟩ := q2
  unfold DatM
  rw [f.i 47 3 a0, f.i 47 4 a1, f.i 47 5 a2, f.i 47 6 a3, f.i 47 7 a4, f.a 49 b0, f.a 50 b1, f.a 51 b2, f.a 52 b3, f.a 53 b4, f.a 54 b5]
  exact h
theorem Rul.fm {D : DD} {u v : US} {a : List (Nat × Nat)} {b c : List Nat} (h : Rul D u) (f : Fm a b c u v) (q : [(13, 2), (14, 2), (47, 26)].all (fun x => !a.contains x) = true) (q2 : [43, 45, 59].all (fun x => !b.contains x) = true) : Rul D v := by
  simp only [List.all_cons, List.all_nil, Bool.and_true, Bool.and_eq_true, Bool.not_eq_true'] at q q2
  obtain ⟨a0, a1, a2⟩ := q
  obtain ⟨b0, b1, b2⟩ := q2
  unfold Rul
  rw [f.i 13 2 a0, f.i 14 2 a1, f.i 47 26 a2, f.a 43 b0, f.a 45 b1, f.a 59 b2, f.2.2.2]
  exact h
theorem MoC.fm {D : DD} {m : MM} {e : Nat} {u v : US} {a : List (Nat × Nat)} {b c : List Nat} (h : MoC D m e u) (f : Fm a b c u v) (q : [(e, 3), (e, 4)].all (fun x => !a.contains x) = true) (q2 : [fpt e 0, fpt e 1, fpt e 2].all (fun x => !b.contains x) = true) : MoC D m e v := by
  simp only [List.all_cons, List.all_nil, Bool.and_true, Bool.and_eq_true, Bool.not_eq_true'] at q q2
  obtain ⟨a0, a1⟩ := q
  obtain ⟨b0, b1, b2⟩ := q2
  unfold MoC
  rw [f.i e 3 a0, f.i e 4 a1, f.a (fpt e 0) b0, f.a (fpt e 1) b1, f.a (fpt e 2) b2]
  exact h
theorem MoM.fm {D : DD} {m : MM} {e : Nat} {u v : US} {a : List (Nat × Nat)} {b c : List Nat} (h : MoM D m e u) (f : Fm a b c u v) (q2 : b.contains e = false) : MoM D m e v := by
  unfold MoM
  rw [f.a e q2]
  exact h
theorem Wd.ft {D : DD} {m : MM} {u v : US} (h : Wd D m u) (f : Ft u v) : Wd D m v := ⟨h.1, h.2.1.fm f rfl rfl, h.2.2.1.fm f rfl rfl, h.2.2.2.1.fm f rfl rfl, h.2.2.2.2.1, h.2.2.2.2.2.1.fm f rfl rfl, h.2.2.2.2.2.2.fm f rfl⟩
theorem Wd.fr {D : DD} {m : MM} {u v : US} (h : Wd D m u) (f : Fr u v) : Wd D m v := h.ft f.ft
theorem Wd.sx {D : DD} {m : MM} {u v : US} (h : Wd D m u) (f : Sx u v) : Wd D m v := h.ft f.sft
/-! out of the invariant and back -/
theorem row_N {n b : Nat} {f g : Nat → Int32} (h : IRow n b f g) (hb : b ≤ 2 ^ 31) : RowN n f (fun j => (f j).toNatClampNeg) ∧ RowN n g (fun j => (f j).toNatClampNeg) ∧ ∀ j, j < n → (f j).toNatClampNeg < b := by
  refine ⟨fun j hj => ?_, fun j hj => ?_, fun j hj => ?_⟩ <;> obtain ⟨h1, c, hc, e⟩ := h j hj
  · show f j = nI (f j).toNatClampNeg
    rw [e, nI_clamp (by omega)]
  · show g j = nI (f j).toNatClampNeg
    rw [← h1, e, nI_clamp (by omega)]
  · rw [e, nI_clamp (by omega)]; exact hc
theorem row_I {n b : Nat} {f g : Nat → Int32} {d : Nat → Nat} (h : RowN n f d) (h2 : RowN n g d) (hb : ∀ j, j < n → d j < b) : IRow n b f g := fun j hj => ⟨by rw [h j hj, h2 j hj], d j, hb j hj, h j hj⟩
def toH (x : Int32) : Option Nat := if x = -1 then none else some x.toNatClampNeg
def moOf (f : Nat → Int32) : MM := (fun t => (f t).toNatClampNeg, fun t => (f (8 + t)).toNatClampNeg, fun p => toH (f (16 + p)), (f 24).toNatClampNeg, f 25)
theorem n31 {a : Nat} (h : a < 256) : ¬ nI a = -1 := fun q => by
  have := congrArg Int32.toInt q
  rw [nI_toInt (by omega)] at this
  have h2 : (-1 : Int32).toInt = -1 := rfl
  omega
theorem mo_of {D : DD} {f g : Nat → Int32} (hd : IDim (dR D) (dC D) (dT D) (dP D) (dM D)) (h : MomOK (dR D) (dC D) (dT D) (dP D) (dM D) f) (h2 : MomEq (dT D) (dP D) f g) : MoOK D (moOf f) ∧ isMo D (moOf f) f ∧ isMo D (moOf f) g := by
  obtain ⟨o1, o2, o3, b, ob, o4⟩ := h
  obtain ⟨e1, e2, e3, e4⟩ := h2
  obtain ⟨d1, d2, d3, d4, d5, d6, d7⟩ := hd
  have hRC : dR D * dC D ≤ 36 := Nat.mul_le_mul d2 d4
  have hb : b < 256 := Nat.lt_of_lt_of_le ob (pow8 d6)
  have q1 : ∀ t, t < dT D → f t = nI (mF (moOf f) t) ∧ mF (moOf f) t < dR D * dC D := fun t ht => by
    obtain ⟨a, ha, e⟩ := o1 t ht
    have : mF (moOf f) t = a := by show (f t).toNatClampNeg = a; rw [e, nI_clamp (by omega)]
    rw [this]; exact ⟨e, ha⟩
  have q2 : ∀ t, t < dT D → f (8 + t) = nI (mH (moOf f) t) ∧ mH (moOf f) t < 5 := fun t ht => by
    obtain ⟨a, ha, e⟩ := o2 t ht
    have : mH (moOf f) t = a := by show (f (8 + t)).toNatClampNeg = a; rw [e, nI_clamp (by omega)]
    rw [this]; exact ⟨e, ha⟩
  have q3 : ∀ p, p < dP D → f (16 + p) = hV (mO (moOf f) p) ∧ ∀ r, mO (moOf f) p = some r → r < dM D := fun p hp => by
    rcases o3 p hp with e | ⟨a, ha, e⟩
    · have : mO (moOf f) p = none := by show toH (f (16 + p)) = _; rw [e]; rfl
      rw [this]; exact ⟨e, fun r hr => by cases hr⟩
    · have : mO (moOf f) p = some a := by show toH (f (16 + p)) = _; unfold toH; rw [e, if_neg (n31 (by omega)), nI_clamp (by omega)]
      rw [this]; exact ⟨e, fun r hr => by cases hr; exact ha⟩
  have q4 : mB (moOf f) = b := by show (f 24).toNatClampNeg = b; rw [o4, nI_clamp (by omega)]
  refine ⟨⟨fun t ht => (q1 t ht).2, fun t ht => (q2 t ht).2, fun p hp => (q3 p hp).2, by rw [q4]; exact ob⟩, ⟨fun t ht => (q1 t ht).1, fun t ht => (q2 t ht).1, fun p hp => (q3 p hp).1, by rw [q4]; exact o4, rfl⟩, ⟨fun t ht => by rw [← (e1 t ht).1]; exact (q1 t ht).1, fun t ht => by rw [← (e1 t ht).2]; exact (q2 t ht).1, fun p hp => by rw [← e2 p hp]; exact (q3 p hp).1, by rw [← e3, q4]; exact o4, by rw [← e4]; rfl⟩⟩
theorem mo_I {D : DD} {m : MM} {f g : Nat → Int32} (ho : MoOK D m) (h : isMo D m f) (h2 : isMo D m g) : MomOK (dR D) (dC D) (dT D) (dP D) (dM D) f ∧ MomEq (dT D) (dP D) f g := by
  obtain ⟨o1, o2, o3, o4⟩ := ho
  obtain ⟨a1, a2, a3, a4, a5⟩ := h
  obtain ⟨b1, b2, b3, b4, b5⟩ := h2
  refine ⟨⟨fun t ht => ⟨_, o1 t ht, a1 t ht⟩, fun t ht => ⟨_, o2 t ht, a2 t ht⟩, fun p hp => ?_, _, o4, a4⟩, fun t ht => ⟨by rw [a1 t ht, b1 t ht], by rw [a2 t ht, b2 t ht]⟩, fun p hp => by rw [a3 p hp, b3 p hp], by rw [a4, b4], by rw [a5, b5]⟩
  rw [a3 p hp]
  cases hq : mO m p with
  | none => exact Or.inl rfl
  | some r => exact Or.inr ⟨r, o3 p hp r hq, rfl⟩
theorem cm_mo {D : DD} {m : MM} {fd hd hm : Nat → Int32} {br hr : Int32} (d : IDim (dR D) (dC D) (dT D) (dP D) (dM D)) : isMo D m (cMom fd hd hm br hr) ↔ (RowN (dT D) fd (mF m) ∧ RowN (dT D) hd (mH m) ∧ (∀ p, p < dP D → hm p = hV (mO m p)) ∧ br = nI (mB m) ∧ hr = mT m) := by
  obtain ⟨d1, d2, d3, d4, d5, d6, d7⟩ := d
  have c1 : ∀ t, t < 8 → cMom fd hd hm br hr t = fd t := fun t ht => by unfold cMom; rw [if_pos ht]
  have c2 : ∀ t, t < 8 → cMom fd hd hm br hr (8 + t) = hd t := fun t ht => by unfold cMom; rw [if_neg (by omega), if_pos (by omega), Nat.add_sub_cancel_left]
  have c3 : ∀ t, t < 8 → cMom fd hd hm br hr (16 + t) = hm t := fun t ht => by unfold cMom; rw [if_neg (by omega), if_neg (by omega), if_pos (by omega), Nat.add_sub_cancel_left]
  constructor
  · rintro ⟨h1, h2, h3, h4, h5⟩
    exact ⟨fun t ht => by rw [← c1 t (by omega)]; exact h1 t ht, fun t ht => by rw [← c2 t (by omega)]; exact h2 t ht, fun p hp => by rw [← c3 p (by omega)]; exact h3 p hp, h4, h5⟩
  · rintro ⟨h1, h2, h3, h4, h5⟩
    exact ⟨fun t ht => by rw [c1 t (by omega)]; exact h1 t ht, fun t ht => by rw [c2 t (by omega)]; exact h2 t ht, fun p hp => by rw [c3 p (by omega)]; exact h3 p hp, h4, h5⟩
/-- the rest of the invariant: text, undo, kept, told, watched -/
def Rst (n : Nat) (D : DD) (u : US) : Prop := ITx (u.1 1 1) (u.1 47 18) (u.2.1 15) (u.2.1 57) ∧ IPast (dR D) (dC D) (dT D) (dP D) (dM D) (u.1 7 3) (u.1 47 30) (u.2.1 31) (u.2.1 63) ∧ (IKept n (dR D) (dC D) (dT D) (dP D) (dM D) (u.1 7 2) (u.1 47 8) (u.2.1 32) (u.2.1 82) (u.2.1 83) (u.2.1 84) ∧ IHr n (u.1 4 4) (u.2.1 31) (u.2.1 32)) ∧ ITold (u.1 8 1) (u.1 47 1) (u.2.2.1 33) (u.2.2.1 48) ∧ IWit (u.1 11 3) (u.1 47 43) (u.2.1 36) (u.2.1 74) (u.2.1 37) (u.2.1 75) (u.2.1 38) (u.2.1 76)
def DDu (u : US) (R C nt np nr k : Nat) : DD := ((R, C, nt, np, nr), (fun j => (u.2.1 16 j).toNatClampNeg), (fun j => (u.2.1 17 j).toNatClampNeg), (fun j => (u.2.1 18 j).toNatClampNeg), (fun j => (u.2.1 19 j).toNatClampNeg), (fun j => (u.2.1 20 j).toNatClampNeg), (fun j => (u.2.1 21 j).toNatClampNeg), rlV (codL (u.2.1 59) k))
theorem Inv_to {n : Nat} {u : US} (h : Inv n u) : ∃ D m, Wd D m u ∧ Rst n D u := by
  obtain ⟨R, C, nt, np, nr, h1, ⟨a0, b0, a1, b1, a2, b2, a3, b3, a4, b4⟩, h3, ⟨t1, t2, t3, t4, t5, t6⟩, h5, h6, h7, h8, h9, h10⟩ := h
  have hRC : R * C ≤ 36 := Nat.mul_le_mul h1.2.1 h1.2.2.2.1
  obtain ⟨p1, q1, r1⟩ := row_N t1 (by omega)
  obtain ⟨p2, q2, r2⟩ := row_N t2 (by omega)
  obtain ⟨p3, q3, r3⟩ := row_N t3 (by omega)
  obtain ⟨p4, q4, r4⟩ := row_N t4 (by omega)
  obtain ⟨p5, q5, r5⟩ := row_N t5 (by omega)
  obtain ⟨p6, q6, r6⟩ := row_N t6 (by omega)
  have h6' := h6
  obtain ⟨a, b, k, ha, hb, hk, ea, eb, ek, hr⟩ := h6'
  have key := mo_of (D := DDu u R C nt np nr k) h1 h5.1 h5.2
  refine ⟨DDu u R C nt np nr k, moOf (cMom (u.2.1 22) (u.2.1 23) (u.2.1 24) (u.1 4 3) (u.1 4 4)), ⟨⟨h1, r1, r2, r3, r4, r5, r6⟩, ⟨⟨a0, a1, a2, a3, a4⟩, p1, p2, p3, p4, p5, p6⟩, ⟨⟨b0, b1, b2, b3, b4⟩, q1, q2, q3, q4, q5, q6⟩, ⟨h6, k, hk, ek, rfl⟩, key.1, (cm_mo (D := DDu u R C nt np nr k) h1).mp key.2.1, key.2.2⟩, h3, h7, h8, h9, h10⟩
theorem Inv_fr {n : Nat} {u : US} {D : DD} {m : MM} (h : Wd D m u) (h2 : Rst n D u) : Inv n u := by
  obtain ⟨⟨h1, r1, r2, r3, r4, r5, r6⟩, ⟨⟨a0, a1, a2, a3, a4⟩, p1, p2, p3, p4, p5, p6⟩, ⟨⟨b0, b1, b2, b3, b4⟩, q1, q2, q3, q4, q5, q6⟩, ⟨h6, -⟩, k1, k2, k3⟩ := h
  obtain ⟨g1, g2, g3, g4, g5⟩ := h2
  exact ⟨dR D, dC D, dT D, dP D, dM D, h1, ⟨a0, b0, a1, b1, a2, b2, a3, b3, a4, b4⟩, g1, ⟨row_I p1 q1 r1, row_I p2 q2 r2, row_I p3 q3 r3, row_I p4 q4 r4, row_I p5 q5 r5, row_I p6 q6 r6⟩, mo_I k1 ((cm_mo h1).mpr k2) k3, h6, g2, g3, g4, g5⟩
theorem Inv_frS {n : Nat} {u : US} {D : DD} {m : MM} (h : Wd D m u) (h2 : Rst n D u) : Inv (n + 1) u := Inv_mono n u (Inv_fr h h2)
