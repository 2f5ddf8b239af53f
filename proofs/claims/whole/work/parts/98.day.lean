/-! day: acts read and done -/
variable {D : DD} {m m' : MM} {e r : Nat} {u v w : US} {n mo p : Nat} {c : Nat → Nat} {ok : Bool}
def digS (n mo : Nat) (c : Nat → Nat) (s : Nat × Bool) : Nat × Bool := stp (sgO n mo c 48 10 s.1) s
def digV (n mo : Nat) (c : Nat → Nat) (s : Nat × Bool) : Nat := sgV (sgO n mo c 48 10 s.1) s.2
def dgI (n mo : Nat) (c : Nat → Nat) (s : Nat × Bool) : Nat → Nat × Bool
  | 0 => s
  | k + 1 => digS n mo c (dgI n mo c s k)
def acN (s : Nat) : Nat := if s = 1 then 2 else if s = 4 then 3 else 1
def hdS (n mo : Nat) (c : Nat → Nat) (s : Nat × Bool) : Nat × Bool := stp (amO n mo c 1 s.1) s
/-- an act at a place: the place behind, and whether it is whole -/
def acS (n mo : Nat) (c : Nat → Nat) (q : Nat) : Nat × Bool := match amO n mo c 6 q with
  | none => (q, false)
  | some s => if s = 4 then hdS n mo c (dgI n mo c (q + 1, true) 3) else dgI n mo c (q + 1, true) (acN s)
theorem acS_n {q : Nat} (h : amO n mo c 6 q = none) : acS n mo c q = (q, false) := by unfold acS; rw [h]
theorem acS_4 {q : Nat} (h : amO n mo c 6 q = some 4) : acS n mo c q = hdS n mo c (dgI n mo c (q + 1, true) 3) := by unfold acS; rw [h]; rfl
theorem acS_s {q s : Nat} (h : amO n mo c 6 q = some s) (hs : ¬ s = 4) : acS n mo c q = dgI n mo c (q + 1, true) (acN s) := by unfold acS; rw [h]; exact if_neg hs
theorem ix6n : ∀ x : Nat, x < 256 → ixO 6 x = none → x ≠ 104 ∧ x ≠ 112 ∧ x ≠ 111 ∧ x ≠ 98 ∧ x ≠ 99 := by decide +kernel
theorem ix6s : ∀ x : Nat, x < 256 → ∀ s : Nat, s < 8 → ixO 6 x = some s → s < 5 ∧ x = [104, 112, 111, 98, 99].getD s 0 := by decide +kernel
theorem am6 {q s : Nat} (ht : Tok n mo c) (h : amO n mo c 6 q = some s) : s < 5 ∧ c q = [104, 112, 111, 98, 99].getD s 0 := by
  have hq := am_p h
  have h8 := am_lt (r := 6) (by decide) h
  unfold amO at h
  rw [if_pos hq] at h
  exact ix6s (c q) (ht.2.2 q (by omega)) s h8 h
theorem nI_n {a b : Nat} (ha : a < 2 ^ 31) (hb : b < 2 ^ 31) (h : a ≠ b) : ¬ nI a = nI b := fun q => h ((nI_eq ha hb).mp q)
/-- the class passes over an act -/
theorem pass58 (ht : Tok n mo c) {q : Nat} (hq : q < min n mo) (h : Rc n mo c q true u) (x : Int32) {k : Nat} (hk : 1 ≤ k) (hk3 : k ≤ 3) : ∃ v, fX5_passAct_58 x (nI k) u = (if x = 99 then oB (fX5_heading v) fun _ u1 => some u1 else some v) ∧ Rc n mo c (dgI n mo c (q + 1, true) k).1 (dgI n mo c (q + 1, true) k).2 v ∧ Fc u v := by
  obtain ⟨v, e1, r1, f1⟩ := dem_c ht.1 h true
  unfold fX5_passAct_58 fX5_passAct_69
  rw [if_neg (nI_nle hk (by omega)), show (1 : Int32) = bI true from rfl, e1, oBs, if_neg (show ¬ bI (true && true) = 0 by decide), show gI v 2 2 = nI q from r1.2.1, show bI true = (1 : Int32) from rfl, nI_1, nxs]
  refine lpE (fun f (z : Int32) w => fX5_passAct_89 f x (nI k) z w) k (fun i => nI i) (fun i w => Rc n mo c (dgI n mo c (q + 1, true) i).1 (dgI n mo c (q + 1, true) i).2 w ∧ Fc u w) (fun o => ∃ v, o = (if x = 99 then oB (fX5_heading v) fun _ u1 => some u1 else some v) ∧ Rc n mo c (dgI n mo c (q + 1, true) k).1 (dgI n mo c (q + 1, true) k).2 v ∧ Fc u v) ?_ ?_ (by omega) 0 rfl ⟨r1.up hq, f1.sI rfl⟩
  · rintro f i w hi ⟨hr, hf⟩
    obtain ⟨v, e1, h1, f1⟩ := dig_c ht hr (k := 10) (by decide)
    left
    rw [fX5_passAct_89, if_neg (nI_ge hi (by omega)), show (10 : Int32) = nI 10 from rfl, e1, oBs, nI_1]
    exact ⟨v, ⟨h1, hf.trans f1⟩, rfl⟩
  · rintro f w ⟨hr, hf⟩
    rw [fX5_passAct_89, if_pos (nI_le (Nat.le_refl _) (by omega))]
    exact ⟨w, rfl, hr, hf⟩
theorem passAct_c (ht : Tok n mo c) {q : Nat} (hq : q < min n mo) (h : Rc n mo c q true u) : ∃ v, fX5_passAct u = some v ∧ Rc n mo c (acS n mo c q).1 (acS n mo c q).2 v ∧ Fc u v := by
  have hcq := ht.2.2 q (by omega)
  unfold fX5_passAct
  rw [peek_c ht h, oBs, pk_y hq]
  cases ho : amO n mo c 6 q with
  | none =>
    obtain ⟨n1, n2, n3, n4, n5⟩ := ix6n (c q) hcq (by unfold amO at ho; rw [if_pos hq] at ho; exact ho)
    obtain ⟨v, e1, r1, f1⟩ := dem_c ht.1 h false
    rw [if_neg (show ¬ nI (c q) = 104 from nI_n (b := 104) (by omega) (by omega) n1), if_neg (show ¬ nI (c q) = 111 from nI_n (b := 111) (by omega) (by omega) n3), if_neg (show ¬ nI (c q) = 98 from nI_n (b := 98) (by omega) (by omega) n4)]
    unfold fX5_passAct_28 fX5_passAct_58 fX5_passAct_69
    rw [if_pos rfl, if_neg (show ¬ nI (c q) = 112 from nI_n (b := 112) (by omega) (by omega) n2), if_neg (show ¬ nI (c q) = 99 from nI_n (b := 99) (by omega) (by omega) n5), if_pos (show (0 : Int32) ≤ 0 by decide), show (0 : Int32) = bI false from rfl, e1, oBs, if_pos (show bI (true && false) = bI false from rfl), acS_n ho]
    exact ⟨v, rfl, r1, f1⟩
  | some s =>
    obtain ⟨hs, ec⟩ := am6 ht ho
    rcases (show s = 0 ∨ s = 1 ∨ s = 2 ∨ s = 3 ∨ s = 4 by omega) with rfl | rfl | rfl | rfl | rfl
    · have ec' : nI (c q) = 104 := by rw [ec]; rfl
      obtain ⟨v, e1, r1, f1⟩ := pass58 ht hq h 104 (k := 1) (by decide) (by decide)
      have e3 : fX5_passAct_28 104 1 u = fX5_passAct_58 104 (nI 1) u := by
        unfold fX5_passAct_28
        rw [if_neg (by decide)]; rfl
      rw [ec', if_pos rfl, show fX5_passAct_23 104 u = fX5_passAct_28 104 1 u from rfl, e3, e1, if_neg (by decide), acS_s ho (by decide)]
      exact ⟨v, rfl, r1, f1⟩
    · have ec' : nI (c q) = 112 := by rw [ec]; rfl
      obtain ⟨v, e1, r1, f1⟩ := pass58 ht hq h 112 (k := 2) (by decide) (by decide)
      have e3 : fX5_passAct_28 112 0 u = fX5_passAct_58 112 (nI 2) u := by
        unfold fX5_passAct_28
        rw [if_pos rfl, if_pos rfl]; rfl
      rw [ec', if_neg (by decide), if_neg (by decide), if_neg (by decide), e3, e1, if_neg (by decide), acS_s ho (by decide)]
      exact ⟨v, rfl, r1, f1⟩
    · have ec' : nI (c q) = 111 := by rw [ec]; rfl
      obtain ⟨v, e1, r1, f1⟩ := pass58 ht hq h 111 (k := 1) (by decide) (by decide)
      have e3 : fX5_passAct_28 111 1 u = fX5_passAct_58 111 (nI 1) u := by
        unfold fX5_passAct_28
        rw [if_neg (by decide)]; rfl
      rw [ec', if_neg (by decide), if_pos rfl, show fX5_passAct_23 111 u = fX5_passAct_28 111 1 u from rfl, e3, e1, if_neg (by decide), acS_s ho (by decide)]
      exact ⟨v, rfl, r1, f1⟩
    · have ec' : nI (c q) = 98 := by rw [ec]; rfl
      obtain ⟨v, e1, r1, f1⟩ := pass58 ht hq h 98 (k := 1) (by decide) (by decide)
      have e3 : fX5_passAct_28 98 1 u = fX5_passAct_58 98 (nI 1) u := by
        unfold fX5_passAct_28
        rw [if_neg (by decide)]; rfl
      rw [ec', if_neg (by decide), if_neg (by decide), if_pos rfl, show fX5_passAct_23 98 u = fX5_passAct_28 98 1 u from rfl, e3, e1, if_neg (by decide), acS_s ho (by decide)]
      exact ⟨v, rfl, r1, f1⟩
    · have ec' : nI (c q) = 99 := by rw [ec]; rfl
      obtain ⟨v, e1, r1, f1⟩ := pass58 ht hq h 99 (k := 3) (by decide) (by decide)
      obtain ⟨v2, e2, r2, f2⟩ := head_c ht r1
      have e3 : fX5_passAct_28 99 0 u = fX5_passAct_58 99 (nI 3) u := by
        unfold fX5_passAct_28
        rw [if_pos rfl, if_neg (by decide), if_pos rfl]; rfl
      rw [ec', if_neg (by decide), if_neg (by decide), if_neg (by decide), e3, e1, if_pos rfl, e2, oBs, acS_4 ho]
      exact ⟨v2, rfl, r2, f1.trans f2⟩
/-- reading acts: how many whole ones, the place behind, whether all are whole -/
def dyR (n mo : Nat) (c : Nat → Nat) : Nat → Nat → Nat × Nat × Bool
  | 0, q => (0, q, true)
  | f + 1, q => if q < min n mo then (if (acS n mo c q).2 then ((dyR n mo c f (acS n mo c q).1).1 + 1, (dyR n mo c f (acS n mo c q).1).2) else (0, (acS n mo c q).1, false)) else (0, q, true)
theorem dg_ge {s : Nat × Bool} : ∀ k, s.1 ≤ (dgI n mo c s k).1
  | 0 => Nat.le_refl _
  | k + 1 => by
    have := dg_ge (s := s) k
    refine Nat.le_trans this ?_
    show _ ≤ sgP _ (dgI n mo c s k).1 _
    unfold sgP
    split <;> omega
theorem dg_ok {s : Nat × Bool} : ∀ k, (dgI n mo c s k).2 = true → (dgI n mo c s k).1 = s.1 + k
  | 0, _ => rfl
  | k + 1, h => by
    obtain ⟨a1, x, _, _, a2⟩ := sg_y h
    have := dg_ok k a1
    show (stp _ _).1 = _
    rw [a2, this]; rfl
/-- a whole act takes two signs or more -/
theorem ac_2 {q : Nat} (h : (acS n mo c q).2 = true) : q + 2 ≤ (acS n mo c q).1 := by
  cases ho : amO n mo c 6 q with
  | none => rw [acS_n ho] at h; cases h
  | some s =>
    by_cases q4 : s = 4
    · subst q4
      rw [acS_4 ho] at h ⊢
      obtain ⟨a1, x, _, _, a2⟩ := sg_y h
      have := dg_ok (n := n) (mo := mo) (c := c) 3 a1
      show _ ≤ (stp _ _).1
      rw [a2, this]; omega
    · rw [acS_s ho q4] at h ⊢
      have := dg_ok (n := n) (mo := mo) (c := c) (acN s) h
      have h1 : 1 ≤ acN s := by
        unfold acN
        by_cases h1 : s = 1
        · rw [if_pos h1]; decide
        · rw [if_neg h1, if_neg q4]; decide
      rw [this]
      show q + 2 ≤ q + 1 + acN s
      omega
theorem sgP_le {o : Option Nat} {p M : Nat} {b : Bool} (hp : p ≤ M) (h : o.isSome = true → p < M) : sgP o p b ≤ M := by
  unfold sgP
  split
  · rename_i w; rw [Bool.and_eq_true] at w; exact h w.2
  · exact hp
theorem dg_le {s : Nat × Bool} (hs : s.1 ≤ min n mo) : ∀ k, (dgI n mo c s k).1 ≤ min n mo
  | 0 => hs
  | k + 1 => sgP_le (dg_le hs k) (fun w => by
    cases ho : sgO n mo c 48 10 (dgI n mo c s k).1 with
    | none => rw [ho] at w; cases w
    | some x => exact (sg_hp ho).1)
theorem ac_le {q : Nat} (hq : q < min n mo) : (acS n mo c q).1 ≤ min n mo := by
  cases ho : amO n mo c 6 q with
  | none => rw [acS_n ho]; exact Nat.le_of_lt hq
  | some s =>
    by_cases q4 : s = 4
    · subst q4
      rw [acS_4 ho]
      refine sgP_le (dg_le (s := (q + 1, true)) hq 3) (fun w => ?_)
      cases hh : amO n mo c 1 (dgI n mo c (q + 1, true) 3).1 with
      | none => rw [hh] at w; cases w
      | some x => exact am_p hh
    · rw [acS_s ho q4]; exact dg_le (s := (q + 1, true)) hq _
theorem readDay_c (ht : Tok n 60 c) (hx : u.1 1 1 = nI n ∧ RowN n (u.2.1 15) c) : ∃ v, fX11_readDay u = some (anV n (dyR n 60 c 60 0).2.1 (dyR n 60 c 60 0).2.2 0, v) ∧ Fm [(2, 1), (2, 2), (2, 3)] [] [] u v := by
  obtain ⟨u1, e1, r1, f1⟩ := open_c (mo := 60) hx
  unfold fX11_readDay
  rw [show (60 : Int32) = nI 60 from rfl, e1, oVs]
  have fin : ∀ (q : Nat) (ok : Bool) (w : US), Rc n 60 c q ok w → Fm [(2, 1), (2, 2), (2, 3)] [] [] u w → ∃ v, fX11_readDay_41 w = some (anV n q ok 0, v) ∧ Fm [(2, 1), (2, 2), (2, 3)] [] [] u v := fun q ok w hr hf => by
    obtain ⟨v, e, f⟩ := answer_c ht.1 hr 0
    unfold fX11_readDay_41
    rw [e, oBs]
    exact ⟨v, rfl, hf.trans (f.mono rfl rfl rfl)⟩
  have key : ∀ (k i f q : Nat) (w : US), i + k = 60 → k < f → Rc n 60 c q true w → Fm [(2, 1), (2, 2), (2, 3)] [] [] u w → ∃ v, fX11_readDay_11 f (nI i) w = some (anV n (dyR n 60 c k q).2.1 (dyR n 60 c k q).2.2 0, v) ∧ Fm [(2, 1), (2, 2), (2, 3)] [] [] u v := by
    intro k
    induction k with
    | zero =>
      intro i f q w hi hf hr hfr
      obtain ⟨f, rfl⟩ : ∃ f', f = f' + 1 := ⟨f - 1, (by omega)⟩
      have : i = 60 := by omega
      subst this
      rw [fX11_readDay_11, if_pos (show (60 : Int32) ≤ nI 60 by decide)]
      exact fin q true w hr hfr
    | succ k ih =>
      intro i f q w hi hf hr hfr
      obtain ⟨f, rfl⟩ : ∃ f', f = f' + 1 := ⟨f - 1, (by omega)⟩
      rw [fX11_readDay_11, if_neg (show ¬ (60 : Int32) ≤ nI i from nI_ge (b := 60) (by omega) (by omega)), peek_c ht hr, oBs, dyR]
      by_cases hq : q < min n 60
      · have hcq := ht.2.2 q (by omega)
        obtain ⟨v, e2, r2, f2⟩ := passAct_c ht hq hr
        rw [pk_y hq, if_neg (n31 hcq), e2, oVs, if_pos hq, nI_1]
        cases hk : (acS n 60 c q).2 with
        | true =>
          rw [hk] at r2
          rw [if_pos rfl]
          exact ih (i + 1) f _ v (by omega) (by omega) r2 (hfr.trans (f2.mono rfl rfl rfl))
        | false =>
          rw [hk] at r2
          rw [if_neg (by decide)]
          obtain ⟨f, rfl⟩ : ∃ f', f = f' + 1 := ⟨f - 1, (by omega)⟩
          rw [fX11_readDay_11]
          by_cases q6 : 60 ≤ i + 1
          · rw [if_pos (show (60 : Int32) ≤ nI (i + 1) from nI_le (a := 60) q6 (by omega))]
            exact fin _ false v r2 (hfr.trans (f2.mono rfl rfl rfl))
          · rw [if_neg (show ¬ (60 : Int32) ≤ nI (i + 1) from nI_ge (b := 60) (by omega) (by omega)), peek_c ht r2, oBs, pk_f, if_pos rfl]
            exact fin _ false v r2 (hfr.trans (f2.mono rfl rfl rfl))
      · rw [pk_n hq, if_pos rfl, if_neg hq]
        exact fin q true w hr hfr
  exact key 60 0 FU 0 u1 rfl (by decide) r1 (f1.mono rfl rfl rfl)
/-! the model reads acts -/
theorem gA_me (w : US) (i : Nat) (x y : Int32) : gA (sA w i x y) i x = y := by
  show (if i = i then upd (w.2.1 i) x.toNatClampNeg y else w.2.1 i) x.toNatClampNeg = y
  rw [if_pos rfl, pk_us]
/-- what is kept of the act at a place -/
def AcV (n mo : Nat) (c : Nat → Nat) (q k : Nat) (w : US) : Prop := ∃ s, amO n mo c 6 q = some s ∧ w.2.1 65 k = nI s ∧ w.2.1 66 k = nI (digV n mo c (q + 1, true)) ∧ ((s = 1 ∨ s = 4) → w.2.1 67 k = nI (digV n mo c (dgI n mo c (q + 1, true) 1))) ∧ (s = 4 → w.2.1 68 k = nI (digV n mo c (dgI n mo c (q + 1, true) 2)) ∧ w.2.1 69 k = nI (hdV (amO n mo c 1 (dgI n mo c (q + 1, true) 3).1) (dgI n mo c (q + 1, true) 3).2))
abbrev FA (u v : US) : Prop := Fm [(47, 19), (47, 38)] [65, 66, 67, 68, 69] [] u v
/-- other places of the rows of acts -/
def Oth (k : Nat) (u v : US) : Prop := ∀ j, ¬ j = k → v.2.1 65 j = u.2.1 65 j ∧ v.2.1 66 j = u.2.1 66 j ∧ v.2.1 67 j = u.2.1 67 j ∧ v.2.1 68 j = u.2.1 68 j ∧ v.2.1 69 j = u.2.1 69 j
theorem Oth.rf {k : Nat} : Oth k u u := fun _ _ => ⟨rfl, rfl, rfl, rfl, rfl⟩
theorem Oth.trans {k : Nat} (h : Oth k u v) (h2 : Oth k v w) : Oth k u w := fun j hj => by
  obtain ⟨a1, a2, a3, a4, a5⟩ := h j hj
  obtain ⟨b1, b2, b3, b4, b5⟩ := h2 j hj
  exact ⟨b1.trans a1, b2.trans a2, b3.trans a3, b4.trans a4, b5.trans a5⟩
theorem Oth.fm {k : Nat} {a : List (Nat × Nat)} {b d : List Nat} (f : Fm a b d u v) (q : [65, 66, 67, 68, 69].all (fun x => !b.contains x) = true) : Oth k u v := by
  simp only [List.all_cons, List.all_nil, Bool.and_true, Bool.and_eq_true, Bool.not_eq_true'] at q
  obtain ⟨q1, q2, q3, q4, q5⟩ := q
  intro j _
  rw [f.a 65 q1, f.a 66 q2, f.a 67 q3, f.a 68 q4, f.a 69 q5]
  exact ⟨rfl, rfl, rfl, rfl, rfl⟩
theorem Oth.st {k i : Nat} (hk : k < 2 ^ 31) {x : Int32} : Oth k u (sA u i (nI k) x) := by
  intro j hj
  have : ∀ a, (sA u i (nI k) x).2.1 a j = u.2.1 a j := fun a => by
    rw [gA_sA]
    split
    · rename_i e; subst e; rw [nI_clamp hk]; exact pk_un hj
    · rfl
  exact ⟨this 65, this 66, this 67, this 68, this 69⟩
/-- place k of a row behind a write to place k of another -/
theorem gA_ot {i a : Nat} (h : ¬ a = i) (x y z : Int32) : gA (sA u i x y) a z = gA u a z := by
  show (if a = i then _ else u.2.1 a) z.toNatClampNeg = _
  rw [if_neg h]
theorem gA_fm {i : Nat} {a : List (Nat × Nat)} {b d : List Nat} (f : Fm a b d u v) (q : b.contains i = false) (z : Int32) : gA v i z = gA u i z := by
  show v.2.1 i _ = u.2.1 i _
  rw [f.a i q]
/-- what a read act must be, as the law of its last step -/
def RA (n mo : Nat) (c : Nat → Nat) (q k : Nat) (u : US) (o : Option (Int32 × US)) : Prop := ∃ v, o = some (bI (acS n mo c q).2, v) ∧ Rm n mo c (acS n mo c q).1 v ∧ gI v 47 38 = gI u 47 38 ∧ ((acS n mo c q).2 = true → AcV n mo c q k v) ∧ Oth k u v ∧ FA u v
theorem kl {k : Nat} (h : k < 60) {x : Option (Int32 × US)} : gd (inb (nI k) 60) x = x := gdi h (by omega)
theorem hV_y {x : Nat} (h : x < 256) : ¬ hV (some x) < 0 := nI_pos (n := x) (by omega)
theorem sgO_lt {lo k q x : Nat} (h : sgO n mo c lo k q = some x) : x < k := by
  obtain ⟨_, a, b, d⟩ := sg_hp h
  omega
theorem sgV_s {o : Option Nat} {x : Nat} (h : o = some x) : sgV o true = x := by rw [h]; rfl
theorem stp_s {o : Option Nat} {x q : Nat} (h : o = some x) : stp o (q, true) = (q + 1, true) := by rw [h]; rfl
theorem stp_n {o : Option Nat} {q : Nat} (h : o = none) : stp o (q, true) = (q, false) := by rw [h]; rfl
/-- the last number is wanting or the act is whole -/
theorem r127_m {k : Nat} (hk : k < 60) {y : Option Nat} (hy : ∀ x, y = some x → x < 256) (h : gA u 67 (nI k) = hV y) : fX12_readsAct_127 (nI k) u = some (bI y.isSome, u) := by
  unfold fX12_readsAct_127
  rw [kl hk, h]
  cases y with
  | none => rw [if_pos hV_neg]; rfl
  | some x => rw [if_neg (hV_y (hy x rfl))]; rfl
theorem readsAct_m (ht : Tok n mo c) {q k : Nat} (hq : q < min n mo) (hk : k < 60) (h : Rm n mo c q u) (hK : gI u 47 38 = nI k) : ∃ v, fX12_readsAct u = some (bI (acS n mo c q).2, v) ∧ Rm n mo c (acS n mo c q).1 v ∧ gI v 47 38 = nI (k + 1) ∧ ((acS n mo c q).2 = true → AcV n mo c q k v) ∧ Oth k u v ∧ FA u v := by
  have hk31 : k < 2 ^ 31 := by omega
  obtain ⟨v1, e1, r1, f1⟩ := takes_m ht h (j := 6) (by decide)
  unfold fX12_readsAct
  rw [show fX12_takesOf 106 u = fX12_takesOf (100 + 6) u from rfl, e1, oBs, hK, kl hk, nxs, nxs]
  have e38 : gI (sA v1 65 (nI k) (hV (amO n mo c 6 q))) 47 38 = nI k := (f1.i 47 38 rfl).trans hK
  obtain ⟨v2, hv2⟩ : ∃ v2, v2 = sI (sA v1 65 (nI k) (hV (amO n mo c 6 q))) 47 38 (gI (sA v1 65 (nI k) (hV (amO n mo c 6 q))) 47 38 + 1) := ⟨_, rfl⟩
  have k2 : gI v2 47 38 = nI (k + 1) := by rw [hv2, e38, nI_1]; rfl
  have a65 : gA v2 65 (nI k) = hV (amO n mo c 6 q) := by rw [hv2]; exact gA_me _ 65 _ _
  have o2 : Oth k u v2 := by
    rw [hv2]
    exact (Oth.fm f1 rfl).trans (show Oth k v1 (sA v1 65 (nI k) (hV (amO n mo c 6 q))) from Oth.st hk31)
  have f2 : FA u v2 := by rw [hv2]; exact ((f1.mono rfl rfl rfl).sA rfl).sI rfl
  have r2 : Rm n mo c (if (amO n mo c 6 q).isSome = true then q + 1 else q) v2 := by rw [hv2]; exact r1.fm (a := [(47, 38)]) (b := [65]) (d := []) ((Fm.rf.sA rfl).sI rfl) rfl rfl
  rw [← hv2, kl hk, a65]
  cases ho : amO n mo c 6 q with
  | none =>
    rw [ho] at r2
    rw [if_neg (show ¬ (0 : Int32) ≤ hV none by decide), acS_n ho]
    exact ⟨v2, rfl, r2, k2, fun w => (by cases w), o2, f2⟩
  | some s =>
    obtain ⟨hs, ec⟩ := am6 ht ho
    rw [ho] at r2 a65
    have r2' : Rm n mo c (q + 1) v2 := r2
    obtain ⟨v3, e3, r3, f3⟩ := num1_m ht r2'
    rw [if_pos (show (0 : Int32) ≤ hV (some s) from nI_pos' (by omega)), e3, oBs, kl hk, nxs]
    obtain ⟨v4, hv4⟩ : ∃ v4, v4 = sA v3 66 (nI k) (hV (sgO n mo c 48 10 (q + 1))) := ⟨_, rfl⟩
    have a66 : gA v4 66 (nI k) = hV (sgO n mo c 48 10 (q + 1)) := by rw [hv4]; exact gA_me _ 66 _ _
    have b65 : gA v4 65 (nI k) = nI s := by
      rw [hv4, gA_ot (by decide), gA_fm f3 rfl, a65]; rfl
    have o4 : Oth k u v4 := by rw [hv4]; exact (o2.trans (Oth.fm f3 rfl)).trans (Oth.st hk31)
    have f4 : FA u v4 := by rw [hv4]; exact (f2.trans (f3.mono rfl rfl rfl)).sA rfl
    have r4 : Rm n mo c (adv (sgO n mo c 48 10 (q + 1)) (q + 1)) v4 := by rw [hv4]; exact r3.fm (a := []) (b := [66]) (d := []) (Fm.rf.sA rfl) rfl rfl
    have k4 : gI v4 47 38 = nI (k + 1) := by rw [hv4]; exact (f3.i 47 38 rfl).trans k2
    rw [← hv4, kl hk, b65, kl hk]
    -- one number or more
    have E : (if nI s = 1 then fX12_readsAct_70 (nI k) v4 else gd (inb (nI k) 60) (if nI s = 4 then fX12_readsAct_70 (nI k) v4 else fX12_readsAct_75 (nI k) 0 v4)) = fX12_readsAct_75 (nI k) (if s = 1 ∨ s = 4 then 1 else 0) v4 := by
      rw [kl hk]
      rcases (show s = 0 ∨ s = 1 ∨ s = 2 ∨ s = 3 ∨ s = 4 by omega) with rfl | rfl | rfl | rfl | rfl <;> rfl
    rw [kl hk] at E
    rw [E]
    unfold fX12_readsAct_75
    rw [kl hk, a66]
    cases h1 : sgO n mo c 48 10 (q + 1) with
    | none =>
      rw [h1] at r4
      have r4' : Rm n mo c (q + 1) v4 := r4
      have ea : acS n mo c q = (q + 1, false) := by
        have d1 : ∀ j, dgI n mo c (q + 1, true) (j + 1) = (q + 1, false) := by
          intro j
          induction j with
          | zero => exact stp_n h1
          | succ j ih =>
            show stp _ (dgI n mo c (q + 1, true) (j + 1)) = _
            rw [ih]; exact sg_f rfl
        by_cases q4 : s = 4
        · subst q4
          rw [acS_4 ho]
          show stp _ (dgI n mo c (q + 1, true) 3) = _
          rw [d1 2]; exact sg_f rfl
        · rw [acS_s ho q4]
          unfold acN
          by_cases q1 : s = 1
          · rw [if_pos q1]; exact d1 1
          · rw [if_neg q1, if_neg q4]; exact d1 0
      rw [if_neg (show ¬ (0 : Int32) ≤ hV none by decide), ea]
      unfold fX12_readsAct_107
      obtain ⟨v5, hv5⟩ : ∃ v5, v5 = sA v4 67 (nI k) (-1) := ⟨_, rfl⟩
      have a67 : gA v5 67 (nI k) = hV none := by rw [hv5]; exact gA_me _ 67 _ _
      rw [kl hk, nxs, ← hv5, kl hk, a67, if_pos hV_neg, r127_m (y := none) hk (fun x hx => by cases hx) a67]
      refine ⟨v5, rfl, ?_, ?_, fun w => (by cases w), ?_, ?_⟩
      · rw [hv5]; exact r4'.fm (a := []) (b := [67]) (d := []) (Fm.rf.sA rfl) rfl rfl
      · rw [hv5]; exact k4
      · rw [hv5]; exact o4.trans (Oth.st hk31)
      · rw [hv5]; exact f4.sA rfl
    | some x1 =>
      have hx1 := sgO_lt h1
      rw [h1] at r4 a66
      have r4' : Rm n mo c (q + 2) v4 := r4
      have d1 : dgI n mo c (q + 1, true) 1 = (q + 2, true) := stp_s h1
      have w66 : v4.2.1 66 k = nI (digV n mo c (q + 1, true)) := by
        have : v4.2.1 66 (nI k).toNatClampNeg = nI x1 := a66
        rw [nI_clamp hk31] at this
        rw [this]
        show nI x1 = nI (sgV (sgO n mo c 48 10 (q + 1)) true)
        rw [sgV_s h1]
      have w65 : v4.2.1 65 k = nI s := by
        have : v4.2.1 65 (nI k).toNatClampNeg = nI s := b65
        rw [nI_clamp hk31] at this; exact this
      rw [if_pos (show (0 : Int32) ≤ hV (some x1) from nI_pos' (by omega))]
      by_cases q14 : s = 1 ∨ s = 4
      · rw [if_pos q14, if_neg (show ¬ (1 : Int32) = 0 by decide)]
        obtain ⟨v5, e5, r5, f5⟩ := num1_m ht r4'
        rw [e5, oBs]
        unfold fX12_readsAct_107
        obtain ⟨v6, hv6⟩ : ∃ v6, v6 = sA v5 67 (nI k) (hV (sgO n mo c 48 10 (q + 2))) := ⟨_, rfl⟩
        have a67 : gA v6 67 (nI k) = hV (sgO n mo c 48 10 (q + 2)) := by rw [hv6]; exact gA_me _ 67 _ _
        have c65 : gA v6 65 (nI k) = nI s := by rw [hv6, gA_ot (by decide), gA_fm f5 rfl, b65]
        have o6 : Oth k u v6 := by rw [hv6]; exact (o4.trans (Oth.fm f5 rfl)).trans (Oth.st hk31)
        have f6 : FA u v6 := by rw [hv6]; exact (f4.trans (f5.mono rfl rfl rfl)).sA rfl
        have r6 : Rm n mo c (adv (sgO n mo c 48 10 (q + 2)) (q + 2)) v6 := by rw [hv6]; exact r5.fm (a := []) (b := [67]) (d := []) (Fm.rf.sA rfl) rfl rfl
        have k6 : gI v6 47 38 = nI (k + 1) := by rw [hv6]; exact (f5.i 47 38 rfl).trans k4
        have y65 : v6.2.1 65 k = nI s ∧ v6.2.1 66 k = nI (digV n mo c (q + 1, true)) := by
          have g1 : v6.2.1 65 = v4.2.1 65 := by rw [hv6]; exact f5.a 65 rfl
          have g2 : v6.2.1 66 = v4.2.1 66 := by rw [hv6]; exact f5.a 66 rfl
          rw [g1, g2]; exact ⟨w65, w66⟩
        rw [kl hk, nxs, ← hv6, kl hk, a67]
        cases h2 : sgO n mo c 48 10 (q + 2) with
        | none =>
          rw [h2] at r6 a67
          have d2 : dgI n mo c (q + 1, true) 2 = (q + 2, false) := by
            show stp (sgO n mo c 48 10 (dgI n mo c (q + 1, true) 1).1) (dgI n mo c (q + 1, true) 1) = _
            rw [d1]; exact stp_n h2
          have ea : acS n mo c q = (q + 2, false) := by
            rcases q14 with rfl | rfl
            · rw [acS_s ho (by decide)]; exact d2
            · rw [acS_4 ho]
              have d3 : dgI n mo c (q + 1, true) 3 = (q + 2, false) := by
                show stp _ (dgI n mo c (q + 1, true) 2) = _
                rw [d2]; exact sg_f rfl
              show stp _ (dgI n mo c (q + 1, true) 3) = _
              rw [d3]; exact sg_f rfl
          rw [if_pos hV_neg, r127_m (y := none) hk (fun x hx => by cases hx) a67, ea]
          exact ⟨v6, rfl, r6, k6, fun w => (by cases w), o6, f6⟩
        | some x2 =>
          have hx2 := sgO_lt h2
          rw [h2] at r6 a67
          have r6' : Rm n mo c (q + 3) v6 := r6
          have d2 : dgI n mo c (q + 1, true) 2 = (q + 3, true) := by
            show stp (sgO n mo c 48 10 (dgI n mo c (q + 1, true) 1).1) (dgI n mo c (q + 1, true) 1) = _
            rw [d1]; exact stp_s h2
          have y67 : v6.2.1 67 k = nI (digV n mo c (dgI n mo c (q + 1, true) 1)) := by
            have : v6.2.1 67 (nI k).toNatClampNeg = nI x2 := a67
            rw [nI_clamp hk31] at this
            rw [this, d1]
            show nI x2 = nI (sgV (sgO n mo c 48 10 (q + 2)) true)
            rw [sgV_s h2]
          rw [if_neg (hV_y (by omega)), kl hk, c65]
          rcases q14 with rfl | rfl
          · have ea : acS n mo c q = (q + 3, true) := by rw [acS_s ho (by decide)]; exact d2
            rw [if_neg (show ¬ nI 1 = 4 by decide), r127_m (y := some x2) hk (fun x hx => by cases hx; omega) a67, ea]
            exact ⟨v6, rfl, r6', k6, fun _ => ⟨1, ho, y65.1, y65.2, fun _ => y67, fun w => absurd w (by decide)⟩, o6, f6⟩
          · rw [if_pos (show nI 4 = 4 from rfl)]
            obtain ⟨v7, e7, r7, f7⟩ := num1_m ht r6'
            rw [e7, oBs, kl hk, nxs]
            obtain ⟨v8, hv8⟩ : ∃ v8, v8 = sA v7 68 (nI k) (hV (sgO n mo c 48 10 (q + 3))) := ⟨_, rfl⟩
            have a68 : gA v8 68 (nI k) = hV (sgO n mo c 48 10 (q + 3)) := by rw [hv8]; exact gA_me _ 68 _ _
            have o8 : Oth k u v8 := by rw [hv8]; exact (o6.trans (Oth.fm f7 rfl)).trans (Oth.st hk31)
            have f8 : FA u v8 := by rw [hv8]; exact (f6.trans (f7.mono rfl rfl rfl)).sA rfl
            have r8 : Rm n mo c (adv (sgO n mo c 48 10 (q + 3)) (q + 3)) v8 := by rw [hv8]; exact r7.fm (a := []) (b := [68]) (d := []) (Fm.rf.sA rfl) rfl rfl
            have k8 : gI v8 47 38 = nI (k + 1) := by rw [hv8]; exact (f7.i 47 38 rfl).trans k6
            have z8 : v8.2.1 65 k = nI 4 ∧ v8.2.1 66 k = nI (digV n mo c (q + 1, true)) ∧ v8.2.1 67 k = nI (digV n mo c (dgI n mo c (q + 1, true) 1)) := by
              have g1 : v8.2.1 65 = v6.2.1 65 := by rw [hv8]; exact f7.a 65 rfl
              have g2 : v8.2.1 66 = v6.2.1 66 := by rw [hv8]; exact f7.a 66 rfl
              have g3 : v8.2.1 67 = v6.2.1 67 := by rw [hv8]; exact f7.a 67 rfl
              rw [g1, g2, g3]; exact ⟨y65.1, y65.2, y67⟩
            rw [← hv8, kl hk, a68]
            unfold fX12_readsAct_177
            cases h3 : sgO n mo c 48 10 (q + 3) with
            | none =>
              rw [h3] at r8
              have r8' : Rm n mo c (q + 3) v8 := r8
              have ea : acS n mo c q = (q + 3, false) := by
                rw [acS_4 ho]
                have d3 : dgI n mo c (q + 1, true) 3 = (q + 3, false) := by
                  show stp (sgO n mo c 48 10 (dgI n mo c (q + 1, true) 2).1) (dgI n mo c (q + 1, true) 2) = _
                  rw [d2]; exact stp_n h3
                show stp _ (dgI n mo c (q + 1, true) 3) = _
                rw [d3]; exact sg_f rfl
              rw [if_neg (show ¬ (0 : Int32) ≤ hV none by decide), kl hk, nxs, kl hk, gA_me, if_pos (show (-1 : Int32) < 0 by decide), ea]
              exact ⟨_, rfl, r8'.fm (a := []) (b := [69]) (d := []) (Fm.rf.sA rfl) rfl rfl, k8, fun w => (by cases w), o8.trans (Oth.st hk31), f8.sA rfl⟩
            | some x3 =>
              have hx3 := sgO_lt h3
              rw [h3] at r8 a68
              have r8' : Rm n mo c (q + 4) v8 := r8
              have d3 : dgI n mo c (q + 1, true) 3 = (q + 4, true) := by
                show stp (sgO n mo c 48 10 (dgI n mo c (q + 1, true) 2).1) (dgI n mo c (q + 1, true) 2) = _
                rw [d2]; exact stp_s h3
              have z68 : v8.2.1 68 k = nI (digV n mo c (dgI n mo c (q + 1, true) 2)) := by
                have : v8.2.1 68 (nI k).toNatClampNeg = nI x3 := a68
                rw [nI_clamp hk31] at this
                rw [this, d2]
                show nI x3 = nI (sgV (sgO n mo c 48 10 (q + 3)) true)
                rw [sgV_s h3]
              obtain ⟨v9, e9, r9, f9⟩ := takes_m ht r8' (j := 1) (by decide)
              rw [if_pos (show (0 : Int32) ≤ hV (some x3) from nI_pos' (by omega)), show fX12_takesOf 101 v8 = fX12_takesOf (100 + 1) v8 from rfl, e9, oBs, kl hk, nxs, kl hk, gA_me]
              have z9 : (sA v9 69 (nI k) (hV (amO n mo c 1 (q + 4)))).2.1 65 k = nI 4 ∧ (sA v9 69 (nI k) (hV (amO n mo c 1 (q + 4)))).2.1 66 k = nI (digV n mo c (q + 1, true)) ∧ (sA v9 69 (nI k) (hV (amO n mo c 1 (q + 4)))).2.1 67 k = nI (digV n mo c (dgI n mo c (q + 1, true) 1)) ∧ (sA v9 69 (nI k) (hV (amO n mo c 1 (q + 4)))).2.1 68 k = nI (digV n mo c (dgI n mo c (q + 1, true) 2)) := by
                have g1 : v9.2.1 65 = v8.2.1 65 := f9.a 65 rfl
                have g2 : v9.2.1 66 = v8.2.1 66 := f9.a 66 rfl
                have g3 : v9.2.1 67 = v8.2.1 67 := f9.a 67 rfl
                have g4 : v9.2.1 68 = v8.2.1 68 := f9.a 68 rfl
                show v9.2.1 65 k = _ ∧ v9.2.1 66 k = _ ∧ v9.2.1 67 k = _ ∧ v9.2.1 68 k = _
                rw [g1, g2, g3, g4]; exact ⟨z8.1, z8.2.1, z8.2.2, z68⟩
              have ea : acS n mo c q = stp (amO n mo c 1 (q + 4)) (q + 4, true) := by
                rw [acS_4 ho]
                show stp (amO n mo c 1 (dgI n mo c (q + 1, true) 3).1) (dgI n mo c (q + 1, true) 3) = _
                rw [d3]
              have f10 : FA u (sA v9 69 (nI k) (hV (amO n mo c 1 (q + 4)))) := (f8.trans (f9.mono rfl rfl rfl)).sA rfl
              have o10 : Oth k u (sA v9 69 (nI k) (hV (amO n mo c 1 (q + 4)))) := (o8.trans (Oth.fm f9 rfl)).trans (Oth.st hk31)
              have k10 : gI (sA v9 69 (nI k) (hV (amO n mo c 1 (q + 4)))) 47 38 = nI (k + 1) := (f9.i 47 38 rfl).trans k8
              cases h4 : amO n mo c 1 (q + 4) with
              | none =>
                rw [h4] at r9
                rw [h4] at f10 o10 k10
                rw [ea, h4, if_pos hV_neg]
                exact ⟨_, rfl, (show Rm n mo c (q + 4) v9 from r9).fm (a := []) (b := [69]) (d := []) (Fm.rf.sA rfl) rfl rfl, k10, fun w => (by cases w), o10, f10⟩
              | some x4 =>
                have hx4 := am_lt (r := 1) (by decide) h4
                rw [h4] at r9
                rw [h4] at f10 o10 k10 z9
                rw [ea, h4, if_neg (hV_y (by omega))]
                refine ⟨_, rfl, (show Rm n mo c (q + 5) v9 from r9).fm (a := []) (b := [69]) (d := []) (Fm.rf.sA rfl) rfl rfl, k10, fun _ => ⟨4, ho, z9.1, z9.2.1, fun _ => z9.2.2.1, fun _ => ⟨z9.2.2.2, ?_⟩⟩, o10, f10⟩
                rw [d3]
                show upd (v9.2.1 69) (nI k).toNatClampNeg (hV (some x4)) k = nI (hdV (amO n mo c 1 (q + 4)) true)
                rw [nI_clamp hk31, pk_us, h4]; rfl
      · rw [if_neg q14, if_pos rfl]
        have q4 : ¬ s = 4 := fun w => q14 (Or.inr w)
        have q1 : ¬ s = 1 := fun w => q14 (Or.inl w)
        have ea : acS n mo c q = (q + 2, true) := by
          rw [acS_s ho q4]
          unfold acN
          rw [if_neg q1, if_neg q4]; exact d1
        unfold fX12_readsAct_107
        obtain ⟨v5, hv5⟩ : ∃ v5, v5 = sA v4 67 (nI k) 0 := ⟨_, rfl⟩
        have a67 : gA v5 67 (nI k) = hV (some 0) := by rw [hv5]; exact gA_me _ 67 _ _
        have c65 : gA v5 65 (nI k) = nI s := by rw [hv5, gA_ot (by decide), b65]
        rw [kl hk, nxs, ← hv5, kl hk, a67, if_neg (show ¬ hV (some 0) < 0 by decide), kl hk, c65, if_neg (show ¬ nI s = 4 from nI_n (b := 4) (by omega) (by omega) q4), r127_m (y := some 0) hk (fun x hx => by cases hx; omega) a67, ea]
        refine ⟨v5, rfl, ?_, ?_, fun _ => ⟨s, ho, ?_, ?_, fun w => absurd w q14, fun w => absurd w q4⟩, ?_, ?_⟩
        · rw [hv5]; exact r4'.fm (a := []) (b := [67]) (d := []) (Fm.rf.sA rfl) rfl rfl
        · rw [hv5]; exact k4
        · rw [hv5]; exact w65
        · rw [hv5]; exact w66
        · rw [hv5]; exact o4.trans (Oth.st hk31)
        · rw [hv5]; exact f4.sA rfl
/-! acts done -/
theorem pass_n (ht : Tok n mo c) {q x : Nat} (hx : x < 256) (h : Rc n mo c q true u) (hn : c q ≠ x) : ∃ v, fX5_passes (nI x) u = some (0, v) ∧ Rc n mo c q true v ∧ Fc u v := by
  obtain ⟨v, e1, r1, f1⟩ := pass_c ht h (s := x) hx
  have hb : (true && htB n mo c q x) = false := by unfold htB; rw [decide_eq_false hn, Bool.and_false]; rfl
  rw [hb] at e1 r1
  exact ⟨v, e1, r1, f1⟩
theorem pass_y (ht : Tok n mo c) {q x : Nat} (hx : x < 256) (hq : q < min n mo) (h : Rc n mo c q true u) (hn : c q = x) : ∃ v, fX5_passes (nI x) u = some (1, v) ∧ Rc n mo c (q + 1) true v ∧ Fc u v := by
  obtain ⟨v, e1, r1, f1⟩ := pass_c ht h (s := x) hx
  have hb : (true && htB n mo c q x) = true := by unfold htB; rw [decide_eq_true hn, decide_eq_true hq]; rfl
  rw [hb] at e1 r1
  exact ⟨v, e1, r1, f1⟩
theorem hours_d (h : Cw D m 4 u) {k : Nat} (hk : k ≤ 60) : ∃ v, fX11_passHours (nI k) u = some (mT (goI D m k), v) ∧ Cw D (goI D m k) 4 v ∧ Fm [(4, 4)] [22, 23] [] u v := by
  unfold fX11_passHours
  refine lpE (fun f (x : Int32) w => fX11_passHours_2 (nI k) f x w) k (fun i => nI i) (fun i w => Cw D (goI D m i) 4 w ∧ Fm [(4, 4)] [22, 23] [] u w) (fun o => ∃ v, o = some (mT (goI D m k), v) ∧ Cw D (goI D m k) 4 v ∧ Fm [(4, 4)] [22, 23] [] u v) ?_ ?_ (by omega) 0 rfl ⟨h, Fm.rf⟩
  · rintro f i w hi ⟨hw, hf⟩
    obtain ⟨v, e1, h1, f1⟩ := walk_c hw
    left
    rw [fX11_passHours_2, if_neg (nI_ge hi (by omega)), e1, oVs, nI_1]
    exact ⟨v, ⟨h1, hf.trans (f1.mono rfl rfl rfl)⟩, rfl⟩
  · rintro f w ⟨hw, hf⟩
    rw [fX11_passHours_2, if_pos (nI_le (Nat.le_refl _) (by omega)), show gI w 4 4 = mT (goI D m k) from hw.gT]
    exact ⟨w, rfl, hw, hf⟩
theorem goesOn_d (h : Mw D m 55 u) {k : Nat} (hk : k ≤ 300) : ∃ v, fX12_goesOn 55 (nI k) u = some v ∧ Mw D (goI D m k) 55 v ∧ Fm [] [55] [] u v := by
  unfold fX12_goesOn
  rw [gd_t (show okA 55 20 = true from rfl)]
  refine lpE (fun f (x : Int32) w => fX12_goesOn_2 55 (nI k) f x w) k (fun i => nI i) (fun i w => Mw D (goI D m i) 55 w ∧ Fm [] [55] [] u w) (fun o => ∃ v, o = some v ∧ Mw D (goI D m k) 55 v ∧ Fm [] [55] [] u v) ?_ ?_ (by omega) 0 rfl ⟨h, Fm.rf⟩
  · rintro f i w hi ⟨hw, hf⟩
    obtain ⟨v, e1, h1, f1⟩ := hour_m hw
    left
    rw [fX12_goesOn_2, if_neg (nI_ge hi (by omega)), e1, oVs, nI_1]
    exact ⟨v, ⟨h1, hf.trans f1⟩, rfl⟩
  · rintro f w ⟨hw, hf⟩
    rw [fX12_goesOn_2, if_pos (nI_le (Nat.le_refl _) (by omega))]
    exact ⟨w, rfl, hw, hf⟩
abbrev FD (u v : US) : Prop := Fm [(2, 2), (2, 3), (4, 3), (4, 4)] [22, 23, 24] [] u v
theorem neg_b (a : Int32) : a < 0 ↔ decide (0 ≤ a) = false := by
  rw [decide_eq_false_iff_not, Int32.lt_iff_toInt_lt, Int32.le_iff_toInt_le]; omega
theorem ite_b (a : Int32) (x : US) : (if a < 0 then some ((0 : Int32), x) else some (1, x)) = some (bI (decide (0 ≤ a)), x) := by
  by_cases h : a < 0
  · rw [if_pos h, (neg_b a).mp h]; rfl
  · rw [if_neg h, decide_eq_true (n_lt.mp h)]; rfl
/-- an act that the class and the model do alike -/
def Act (D : DD) (n : Nat) (c : Nat → Nat) (q : Nat) (m : MM) (w : US) (h : Nat) : Prop := ∃ (a : Int32) (b : Bool) (m' : MM) (v : US) (h' : Nat), fX11_doAct w = some (a, v) ∧ (a < 0 ↔ b = false) ∧ Cw D m' 4 v ∧ Rc n 60 c (acS n 60 c q).1 true v ∧ FD w v ∧ mT m' = nI h' ∧ h' ≤ h + 9 ∧ ∀ (k : Nat) (y : US), k < 60 → Mw D m 55 y → AcV n 60 c q k y → ∃ z, fX12_does (nI k) y = some (bI b, z) ∧ Mw D m' 55 z ∧ Fm [] [55] [] y z
theorem gA_k {i k : Nat} (hk : k < 60) {x : Int32} (h : u.2.1 i k = x) : gA u i (nI k) = x := by
  show u.2.1 i (nI k).toNatClampNeg = x
  rw [nI_clamp (by omega)]; exact h
theorem dgV_lt {s : Nat × Bool} : digV n mo c s < 10 := by
  unfold digV sgV
  cases s.2 with
  | false => exact Nat.zero_lt_succ _
  | true =>
    rw [if_pos rfl]
    cases ho : sgO n mo c 48 10 s.1 with
    | none => exact Nat.zero_lt_succ _
    | some x => exact sgO_lt ho
/-- the class's frame from reading a sign to the act -/
theorem act_d (ht : Tok n 60 c) {q h : Nat} (hh : h < 2 ^ 30) (hq : q < min n 60) (hw : Cw D m 4 w) (hr : Rc n 60 c q true w) (hk : (acS n 60 c q).2 = true) (hT : mT m = nI h) : Act D n c q m w h := by
  have hd := hw.2.1
  have hm := hw.2.2.2.2.1
  cases ho : amO n 60 c 6 q with
  | none => rw [acS_n ho] at hk; cases hk
  | some s =>
    obtain ⟨hs, ec⟩ := am6 ht ho
    have dig : ∀ (s : Nat × Bool) (x : US), Rc n 60 c s.1 s.2 x → ∃ y, fX5_digit 10 x = some (nI (digV n 60 c s), y) ∧ Rc n 60 c (digS n 60 c s).1 (digS n 60 c s).2 y ∧ Fc x y := fun s x hx => dig_c ht hx (k := 10) (by decide)
    unfold Act fX11_doAct
    rcases (show s = 0 ∨ s = 1 ∨ s = 2 ∨ s = 3 ∨ s = 4 by omega) with rfl | rfl | rfl | rfl | rfl
    · -- hours
      have ec' : c q = 104 := ec
      obtain ⟨v1, e1, r1, f1⟩ := pass_y ht (x := 104) (by decide) hq hr ec'
      obtain ⟨v2, e2, r2, f2⟩ := dig (q + 1, true) v1 r1
      have hV := dgV_lt (n := n) (mo := 60) (c := c) (s := (q + 1, true))
      obtain ⟨v3, e3, c3, f3⟩ := hours_d ((hw.fm4 f1 rfl rfl).fm4 f2 rfl rfl) (k := digV n 60 c (q + 1, true)) (by omega)
      rw [show (104 : Int32) = nI 104 from rfl, e1, oBs, if_neg (show ¬ (1 : Int32) = 0 by decide), e2, oBs, e3, oBs]
      have hT2 := goI_T D hT (digV n 60 c (q + 1, true))
      rw [acS_s ho (by decide)] at hk ⊢
      have r2' : Rc n 60 c (dgI n 60 c (q + 1, true) 1).1 true v2 := by
        have : (digS n 60 c (q + 1, true)).2 = true := hk
        rw [this] at r2; exact r2
      refine ⟨_, true, goI D m (digV n 60 c (q + 1, true)), v3, h + digV n 60 c (q + 1, true), rfl, ⟨fun w => ?_, fun w => by cases w⟩, c3, r2'.fm f3 rfl rfl, ((f1.mono rfl rfl rfl).trans (f2.mono rfl rfl rfl)).trans (f3.mono rfl rfl rfl), hT2, (by omega), ?_⟩
      · rw [hT2] at w; exact absurd w (nI_pos (by omega))
      · rintro k y hk hy ⟨s, hs, a1, a2, a3, a4⟩
        have : s = 0 := by rw [ho] at hs; cases hs; rfl
        subst this
        obtain ⟨z, ez, hz, fz⟩ := goesOn_d hy (k := digV n 60 c (q + 1, true)) (by omega)
        unfold fX12_does
        rw [kl hk, kl hk, gA_k hk a1, if_pos (show nI 0 = 0 from rfl), gA_k hk a2, ez, oVs]
        exact ⟨z, rfl, hz, fz⟩
    · -- hang
      have ec' : c q = 112 := ec
      obtain ⟨v0, e0, r0, f0⟩ := pass_n ht (x := 104) (by decide) hr (by rw [ec']; decide)
      obtain ⟨v1, e1, r1, f1⟩ := pass_y ht (x := 112) (by decide) hq r0 ec'
      obtain ⟨v2, e2, r2, f2⟩ := dig (q + 1, true) v1 r1
      obtain ⟨v3, e3, r3, f3⟩ := dig (digS n 60 c (q + 1, true)) v2 r2
      have f03 : Fc w v3 := ((f0.trans f1).trans f2).trans f3
      obtain ⟨a, m', hA, hB, hT'⟩ := hang_a hd hm (nI (digV n 60 c (q + 1, true))) (nI (digV n 60 c (digS n 60 c (q + 1, true))))
      obtain ⟨v4, e4, c4, f4⟩ := hA v3 (hw.fm4 f03 rfl rfl)
      rw [show (104 : Int32) = nI 104 from rfl, e0, oBs, if_pos rfl, show (112 : Int32) = nI 112 from rfl, e1, oBs, if_neg (show ¬ (1 : Int32) = 0 by decide), e2, oBs, e3, oBs, e4, oBs]
      rw [acS_s ho (by decide)] at hk ⊢
      have r3' : Rc n 60 c (dgI n 60 c (q + 1, true) 2).1 true v3 := by
        have : (digS n 60 c (digS n 60 c (q + 1, true))).2 = true := hk
        rw [this] at r3; exact r3
      refine ⟨a, decide (0 ≤ a), m', v4, h, rfl, neg_b a, c4, r3'.fm f4 rfl rfl, (f03.mono rfl rfl rfl).trans (f4.mono rfl rfl rfl), hT'.trans hT, (by omega), ?_⟩
      rintro k y hk hy ⟨s, hs, a1, a2, a3, a4⟩
      have : s = 1 := by rw [ho] at hs; cases hs; rfl
      subst this
      obtain ⟨z, ez, hz, fz⟩ := hB y hy
      unfold fX12_does
      rw [kl hk, kl hk, gA_k hk a1, if_neg (show ¬ nI 1 = 0 by decide), if_pos (show nI 1 = 1 from rfl), kl hk, gA_k hk a2, gA_k hk (a3 (Or.inl rfl)), show fX12_hangs 55 (nI (digV n 60 c (q + 1, true))) (nI (digV n 60 c (dgI n 60 c (q + 1, true) 1))) y = _ from ez, oBs, ite_b]
      exact ⟨z, rfl, hz, fz⟩
    · -- takes
      have ec' : c q = 111 := ec
      obtain ⟨v0, e0, r0, f0⟩ := pass_n ht (x := 104) (by decide) hr (by rw [ec']; decide)
      obtain ⟨v9, e9, r9, f9⟩ := pass_n ht (x := 112) (by decide) r0 (by rw [ec']; decide)
      obtain ⟨v1, e1, r1, f1⟩ := pass_y ht (x := 111) (by decide) hq r9 ec'
      obtain ⟨v2, e2, r2, f2⟩ := dig (q + 1, true) v1 r1
      have f03 : Fc w v2 := ((f0.trans f9).trans f1).trans f2
      obtain ⟨a, m', hA, hB, hT'⟩ := takes_a hd hm (nI (digV n 60 c (q + 1, true)))
      obtain ⟨v4, e4, c4, f4⟩ := hA v2 (hw.fm4 f03 rfl rfl)
      rw [show (104 : Int32) = nI 104 from rfl, e0, oBs, if_pos rfl, show (112 : Int32) = nI 112 from rfl, e9, oBs, if_pos rfl, show (111 : Int32) = nI 111 from rfl, e1, oBs, if_neg (show ¬ (1 : Int32) = 0 by decide), e2, oBs, e4, oBs]
      rw [acS_s ho (by decide)] at hk ⊢
      have r3' : Rc n 60 c (dgI n 60 c (q + 1, true) 1).1 true v2 := by
        have : (digS n 60 c (q + 1, true)).2 = true := hk
        rw [this] at r2; exact r2
      refine ⟨a, decide (0 ≤ a), m', v4, h, rfl, neg_b a, c4, r3'.fm f4 rfl rfl, (f03.mono rfl rfl rfl).trans (f4.mono rfl rfl rfl), hT'.trans hT, (by omega), ?_⟩
      rintro k y hk hy ⟨s, hs, a1, a2, a3, a4⟩
      have : s = 2 := by rw [ho] at hs; cases hs; rfl
      subst this
      obtain ⟨z, ez, hz, fz⟩ := hB y hy
      unfold fX12_does
      rw [kl hk, kl hk, gA_k hk a1, if_neg (show ¬ nI 2 = 0 by decide), if_neg (show ¬ nI 2 = 1 by decide), if_pos (show nI 2 = 2 from rfl), gA_k hk a2, ez, oBs, ite_b]
      exact ⟨z, rfl, hz, fz⟩
    · -- ball
      have ec' : c q = 98 := ec
      obtain ⟨v0, e0, r0, f0⟩ := pass_n ht (x := 104) (by decide) hr (by rw [ec']; decide)
      obtain ⟨v9, e9, r9, f9⟩ := pass_n ht (x := 112) (by decide) r0 (by rw [ec']; decide)
      obtain ⟨v8, e8, r8, f8⟩ := pass_n ht (x := 111) (by decide) r9 (by rw [ec']; decide)
      obtain ⟨v1, e1, r1, f1⟩ := pass_y ht (x := 98) (by decide) hq r8 ec'
      obtain ⟨v2, e2, r2, f2⟩ := dig (q + 1, true) v1 r1
      have f03 : Fc w v2 := (((f0.trans f9).trans f8).trans f1).trans f2
      obtain ⟨a, m', hA, hB, hT'⟩ := ball_a hd hm (nI (digV n 60 c (q + 1, true)))
      obtain ⟨v4, e4, c4, f4⟩ := hA v2 (hw.fm4 f03 rfl rfl)
      rw [show (104 : Int32) = nI 104 from rfl, e0, oBs, if_pos rfl, show (112 : Int32) = nI 112 from rfl, e9, oBs, if_pos rfl, show (111 : Int32) = nI 111 from rfl, e8, oBs, if_pos rfl, show (98 : Int32) = nI 98 from rfl, e1, oBs, if_neg (show ¬ (1 : Int32) = 0 by decide), e2, oBs, e4, oBs]
      rw [acS_s ho (by decide)] at hk ⊢
      have r3' : Rc n 60 c (dgI n 60 c (q + 1, true) 1).1 true v2 := by
        have : (digS n 60 c (q + 1, true)).2 = true := hk
        rw [this] at r2; exact r2
      refine ⟨a, decide (0 ≤ a), m', v4, h, rfl, neg_b a, c4, r3'.fm f4 rfl rfl, (f03.mono rfl rfl rfl).trans (f4.mono rfl rfl rfl), hT'.trans hT, (by omega), ?_⟩
      rintro k y hk hy ⟨s, hs, a1, a2, a3, a4⟩
      have : s = 3 := by rw [ho] at hs; cases hs; rfl
      subst this
      obtain ⟨z, ez, hz, fz⟩ := hB y hy
      unfold fX12_does
      rw [kl hk, kl hk, gA_k hk a1, if_neg (show ¬ nI 3 = 0 by decide), if_neg (show ¬ nI 3 = 1 by decide), if_neg (show ¬ nI 3 = 2 by decide), if_pos (show nI 3 = 3 from rfl), gA_k hk a2, ez, oBs, ite_b]
      exact ⟨z, rfl, hz, fz⟩
    · -- carry
      have ec' : c q = 99 := ec
      obtain ⟨v0, e0, r0, f0⟩ := pass_n ht (x := 104) (by decide) hr (by rw [ec']; decide)
      obtain ⟨v9, e9, r9, f9⟩ := pass_n ht (x := 112) (by decide) r0 (by rw [ec']; decide)
      obtain ⟨v8, e8, r8, f8⟩ := pass_n ht (x := 111) (by decide) r9 (by rw [ec']; decide)
      obtain ⟨v7, e7, r7, f7⟩ := pass_n ht (x := 98) (by decide) r8 (by rw [ec']; decide)
      obtain ⟨v1, e1, r1, f1⟩ := pass_y ht (x := 99) (by decide) hq r7 ec'
      obtain ⟨v2, e2, r2, f2⟩ := dig (q + 1, true) v1 r1
      obtain ⟨v3, e3, r3, f3⟩ := dig (dgI n 60 c (q + 1, true) 1) v2 r2
      obtain ⟨v4, e4, r4, f4⟩ := dig (dgI n 60 c (q + 1, true) 2) v3 r3
      have r4' : Rc n 60 c (dgI n 60 c (q + 1, true) 3).1 (dgI n 60 c (q + 1, true) 3).2 v4 := r4
      obtain ⟨v5, e5, r5, f5⟩ := head_c ht r4'
      have f05 : Fc w v5 := (((((((f0.trans f9).trans f8).trans f7).trans f1).trans f2).trans f3).trans f4).trans f5
      have hw5 := hw.fm4 f05 rfl rfl
      rw [show (104 : Int32) = nI 104 from rfl, e0, oBs, if_pos rfl, show (112 : Int32) = nI 112 from rfl, e9, oBs, if_pos rfl, show (111 : Int32) = nI 111 from rfl, e8, oBs, if_pos rfl, show (98 : Int32) = nI 98 from rfl, e7, oBs, if_pos rfl, show (99 : Int32) = nI 99 from rfl, e1, oBs, if_neg (show ¬ (1 : Int32) = 0 by decide)]
      unfold fX11_carryAsTold
      rw [e2, oBs, e3, oBs, e4, oBs, e5, oBs, hw5.xR, hw5.xC]
      rw [acS_4 ho] at hk ⊢
      have r5' : Rc n 60 c (hdS n 60 c (dgI n 60 c (q + 1, true) 3)).1 true v5 := by
        have : sgK (amO n 60 c 1 (dgI n 60 c (q + 1, true) 3).1) (dgI n 60 c (q + 1, true) 3).2 = true := hk
        rw [this] at r5; exact r5
      have b := hd.1
      have b1 := b.2.1
      have b2 := b.2.2.2.1
      have l2 := dgV_lt (n := n) (mo := 60) (c := c) (s := dgI n 60 c (q + 1, true) 1)
      have l3 := dgV_lt (n := n) (mo := 60) (c := c) (s := dgI n 60 c (q + 1, true) 2)
      have no : dR D ≤ digV n 60 c (dgI n 60 c (q + 1, true) 1) ∨ dC D ≤ digV n 60 c (dgI n 60 c (q + 1, true) 2) → ∀ (k : Nat) (y : US), k < 60 → Mw D m 55 y → AcV n 60 c q k y → ∃ z, fX12_does (nI k) y = some (bI false, z) ∧ Mw D m 55 z ∧ Fm [] [55] [] y z := by
        rintro hno k y hk hy ⟨s, hs, a1, a2, a3, a4⟩
        have : s = 4 := by rw [ho] at hs; cases hs; rfl
        subst this
        unfold fX12_does fX12_does_141 fX12_does_142
        rw [kl hk, kl hk, gA_k hk a1, if_neg (show ¬ nI 4 = 0 by decide), if_neg (show ¬ nI 4 = 1 by decide), if_neg (show ¬ nI 4 = 2 by decide), if_neg (show ¬ nI 4 = 3 by decide), kl hk, gA_k hk (a3 (Or.inr rfl)), hy.xR, if_pos rfl]
        by_cases h1 : dR D ≤ digV n 60 c (dgI n 60 c (q + 1, true) 1)
        · rw [if_pos (nI_le h1 (by omega))]
          exact ⟨y, rfl, hy, Fm.rf⟩
        · rw [if_neg (nI_ge (show digV n 60 c (dgI n 60 c (q + 1, true) 1) < dR D by omega) (by omega)), kl hk, gA_k hk (a4 rfl).1, hy.xC, if_pos (nI_le (hno.resolve_left h1) (by omega))]
          exact ⟨y, rfl, hy, Fm.rf⟩
      by_cases h1 : dR D ≤ digV n 60 c (dgI n 60 c (q + 1, true) 1)
      · rw [if_pos (nI_le h1 (by omega)), oBs]
        exact ⟨-1, false, m, v5, h, rfl, ⟨fun _ => rfl, fun _ => by decide⟩, hw5, r5', f05.mono rfl rfl rfl, hT, (by omega), no (Or.inl h1)⟩
      · rw [if_neg (nI_ge (show digV n 60 c (dgI n 60 c (q + 1, true) 1) < dR D by omega) (by omega))]
        by_cases h2 : dC D ≤ digV n 60 c (dgI n 60 c (q + 1, true) 2)
        · rw [if_neg (nI_nlt h2 (by omega)), oBs]
          exact ⟨-1, false, m, v5, h, rfl, ⟨fun _ => rfl, fun _ => by decide⟩, hw5, r5', f05.mono rfl rfl rfl, hT, (by omega), no (Or.inr h2)⟩
        · obtain ⟨a, m', hA, hB, hT'⟩ := carry_a hd hm (nI (digV n 60 c (q + 1, true))) (nI (digV n 60 c (dgI n 60 c (q + 1, true) 1) * dC D + digV n 60 c (dgI n 60 c (q + 1, true) 2))) (nI (hdV (amO n 60 c 1 (dgI n 60 c (q + 1, true) 3).1) (dgI n 60 c (q + 1, true) 3).2))
          obtain ⟨v6, e6, c6, f6⟩ := hA v5 hw5
          rw [if_pos (nI_lt (show digV n 60 c (dgI n 60 c (q + 1, true) 2) < dC D by omega) (by omega)), pk_mul, nI_add, e6, oBs, oBs]
          refine ⟨a, decide (0 ≤ a), m', v6, h, rfl, neg_b a, c6, r5'.fm f6 rfl rfl, (f05.mono rfl rfl rfl).trans (f6.mono rfl rfl rfl), hT'.trans hT, (by omega), ?_⟩
          rintro k y hk hy ⟨s, hs, a1, a2, a3, a4⟩
          have : s = 4 := by rw [ho] at hs; cases hs; rfl
          subst this
          obtain ⟨z, ez, hz, fz⟩ := hB y hy
          unfold fX12_does fX12_does_141 fX12_does_142
          rw [kl hk, kl hk, gA_k hk a1, if_neg (show ¬ nI 4 = 0 by decide), if_neg (show ¬ nI 4 = 1 by decide), if_neg (show ¬ nI 4 = 2 by decide), if_neg (show ¬ nI 4 = 3 by decide), kl hk, gA_k hk (a3 (Or.inr rfl)), hy.xR, if_neg (nI_ge (show digV n 60 c (dgI n 60 c (q + 1, true) 1) < dR D by omega) (by omega)), kl hk, gA_k hk (a4 rfl).1, hy.xC, if_neg (nI_ge (show digV n 60 c (dgI n 60 c (q + 1, true) 2) < dC D by omega) (by omega)), if_neg (show ¬ (1 : Int32) = 0 by decide), kl hk, kl hk, kl hk, gA_k hk a2, gA_k hk (a4 rfl).2, pk_mul, nI_add, Nat.mul_comm (dC D), ez, oBs, ite_b]
          exact ⟨z, rfl, hz, fz⟩
