/-! more of reading: numbers, headings, letters -/
variable {D : DD} {m m' : MM} {e r : Nat} {u v : US} {n mo p : Nat} {c : Nat → Nat} {ok : Bool}
def adv (o : Option Nat) (p : Nat) : Nat := if o.isSome = true then p + 1 else p
theorem sg_hp {lo k x : Nat} (h : sgO n mo c lo k p = some x) : p < min n mo ∧ lo ≤ c p ∧ c p < lo + k ∧ x = c p - lo := by
  unfold sgO at h
  split at h
  · rename_i w; cases h; exact ⟨w.1, w.2.1, w.2.2, rfl⟩
  · cases h
theorem sg_no {lo k : Nat} (h : sgO n mo c lo k p = none) (hp : p < min n mo) : c p < lo ∨ lo + k ≤ c p := by
  unfold sgO at h
  split at h
  · cases h
  · rename_i w
    by_cases q : c p < lo
    · exact Or.inl q
    · exact Or.inr (by omega)
theorem isDig_m (ht : Tok n mo c) (h : Rm n mo c p u) : fX12_isDigit u = some (bI (sgO n mo c 48 10 p).isSome, u) := by
  have hc := ht.2.2
  have hn := ht.1
  have hle := h.2.2
  unfold fX12_isDigit
  rw [show gI u 47 20 = _ from h.1.2, show gI u 47 19 = nI p from h.2.1]
  by_cases q : p < min n mo
  · have hcp := hc p (by omega)
    rw [if_neg (nI_ge q (by omega)), gdi (show p < 80 by omega) (by omega), h.g hn (by omega), show fX12_in (nI (c p)).toInt64 48 57 u = _ from in_long (nI (c p)) 48 57 u, oBs]
    cases ho : sgO n mo c 48 10 p with
    | some x =>
      obtain ⟨_, a1, a2, _⟩ := sg_hp ho
      have hP : (48 : Int32) ≤ nI (c p) ∧ nI (c p) ≤ 57 := ⟨nI_le (a := 48) a1 (by omega), nI_le (b := 57) (by omega) (by omega)⟩
      rw [if_pos hP]; rfl
    | none =>
      have hP : ¬ ((48 : Int32) ≤ nI (c p) ∧ nI (c p) ≤ 57) := fun w => by
        have w1 := (nI_leI (a := 48) (b := c p) (by omega) (by omega)).mp w.1
        have w2 := (nI_leI (a := c p) (b := 57) (by omega) (by omega)).mp w.2
        rcases sg_no ho q with a | a <;> omega
      rw [if_neg hP]; rfl
  · rw [if_pos (nI_le (by omega) (by omega))]
    have : sgO n mo c 48 10 p = none := if_neg (fun w => q w.1)
    rw [this]; rfl
theorem num1_m (ht : Tok n mo c) (h : Rm n mo c p u) : ∃ v, fX12_number 1 u = some (hV (sgO n mo c 48 10 p), v) ∧ Rm n mo c (adv (sgO n mo c 48 10 p) p) v ∧ Fdm u v := by
  have hc := ht.2.2
  have hn := ht.1
  unfold fX12_number
  rw [isDig_m ht h, oBs]
  cases ho : sgO n mo c 48 10 p with
  | none =>
    rw [if_pos (show bI (none : Option Nat).isSome = 0 from rfl)]
    exact ⟨u, rfl, h, Fm.rf⟩
  | some x =>
    obtain ⟨a0, a1, a2, a3⟩ := sg_hp ho
    rw [if_neg (show ¬ bI (some x).isSome = 0 from show ¬ bI true = 0 by decide), FU_s, fX12_number_13, if_neg (show ¬ (1 : Int32) ≤ 0 by decide), isDig_m ht h, oBs, ho, if_neg (show ¬ bI (some x).isSome = 0 from show ¬ bI true = 0 by decide), show gI u 47 19 = nI p from h.2.1, gdi (show p < 80 by omega) (by omega), nxs, h.g hn (by omega), show (4095 : Nat) = 4094 + 1 from rfl, fX12_number_13, if_pos (show (1 : Int32) ≤ 0 + 1 by decide), show (10 : Int32) * 0 = 0 by decide, Int32.zero_add, show (48 : Int32) = nI 48 from rfl, pk_sub a1, nI_1, ← a3]
    exact ⟨_, rfl, h.up a0, Fm.rf.sI rfl⟩
theorem dig_m (ht : Tok n mo c) (h : Rm n mo c p u) {lo k : Nat} (hk : 1 ≤ k) (hlk : lo + k ≤ 10) : ∃ v, fX12_digitIn (nI lo) (nI (lo + k) - 1) u = some (hV ((sgO n mo c (48 + lo) k p).map (fun x => x + lo)), v) ∧ Rm n mo c (adv (sgO n mo c (48 + lo) k p) p) v ∧ Fdm u v := by
  have hc := ht.2.2
  have hn := ht.1
  have hle := h.2.2
  unfold fX12_digitIn
  rw [show gI u 47 20 = _ from h.1.2, show gI u 47 19 = nI p from h.2.1, subl _ (by omega)]
  by_cases q : p < min n mo
  · have hcp := hc p (by omega)
    have hs := subI (a := c p) (b := 48) (by omega) (by omega)
    rw [if_neg (nI_ge q (by omega)), gdi (show p < 80 by omega) (by omega), h.g hn (by omega), in_long, oBs]
    cases ho : sgO n mo c (48 + lo) k p with
    | some x =>
      obtain ⟨_, a1, a2, a3⟩ := sg_hp ho
      have hP : nI lo ≤ nI (c p) - 48 ∧ nI (c p) - 48 ≤ nI (lo + k - 1) := ⟨by rw [show (48 : Int32) = nI 48 from rfl, pk_sub (by omega)]; exact nI_le (by omega) (by omega), by rw [show (48 : Int32) = nI 48 from rfl, pk_sub (by omega)]; exact nI_le (by omega) (by omega)⟩
      rw [if_pos hP, if_neg (by decide), show gI u 47 19 = nI p from h.2.1, nI_1, nxs]
      have e19 : gI (sI u 47 19 (nI (p + 1))) 47 19 = nI (p + 1) := rfl
      rw [e19, m1n, gdi (show p < 80 by omega) (by omega), show gA (sI u 47 19 (nI (p + 1))) 57 (nI p) = nI (c p) from h.g hn (by omega), show (48 : Int32) = nI 48 from rfl, pk_sub (by omega)]
      refine ⟨_, ?_, h.up q, Fm.rf.sI rfl⟩
      show some (nI (c p - 48), _) = some (nI (x + lo), _)
      rw [a3, show c p - (48 + lo) + lo = c p - 48 by omega]
    | none =>
      have hP : ¬ (nI lo ≤ nI (c p) - 48 ∧ nI (c p) - 48 ≤ nI (lo + k - 1)) := fun w => by
        have w1 := w.1
        have w2 := w.2
        rw [fa_le, show (48 : Int32) = nI 48 from rfl, hs, nI_toInt (by omega)] at w1
        rw [fa_le, show (48 : Int32) = nI 48 from rfl, hs, nI_toInt (by omega)] at w2
        rcases sg_no ho q with a | a <;> omega
      rw [if_neg hP, if_pos rfl]
      exact ⟨u, rfl, h, Fm.rf⟩
  · rw [if_pos (nI_le (by omega) (by omega))]
    have : sgO n mo c (48 + lo) k p = none := if_neg (fun w => q w.1)
    rw [this]
    exact ⟨u, rfl, h, Fm.rf⟩
/-! headings -/
def hdI (v : Int32) : Int32 := if v = 100 then 2 else (if v = 108 then 3 else (if v = 114 then 1 else (if v = 115 then 4 else (if v = 117 then 0 else -1))))
theorem hdOf_c (v : Int32) (u : US) : fX5_headingOf v u = some (hdI v, u) := by
  unfold fX5_headingOf hdI
  by_cases h1 : v = 100
  · rw [if_pos h1, if_pos h1]
  rw [if_neg h1, if_neg h1]
  by_cases h2 : v = 108
  · rw [if_pos h2, if_pos h2]
  rw [if_neg h2, if_neg h2]
  by_cases h3 : v = 114
  · rw [if_pos h3, if_pos h3]
  rw [if_neg h3, if_neg h3]
  by_cases h4 : v = 115
  · rw [if_pos h4, if_pos h4]
  rw [if_neg h4, if_neg h4]
  by_cases h5 : v = 117
  · rw [if_pos h5, if_pos h5]
  rw [if_neg h5, if_neg h5]
theorem hd_ix : ∀ x : Nat, x < 256 → hdI (nI x) = hV (ixO 1 x) := by decide +kernel
def hdV (o : Option Nat) (ok : Bool) : Nat := if ok then o.getD 4 else 4
theorem head_c (ht : Tok n mo c) (h : Rc n mo c p ok u) : ∃ v, fX5_heading u = some (nI (hdV (amO n mo c 1 p) ok), v) ∧ Rc n mo c (sgP (amO n mo c 1 p) p ok) (sgK (amO n mo c 1 p) ok) v ∧ Fc u v := by
  have hc := ht.2.2
  have hn := ht.1
  unfold fX5_heading
  rw [peek_c ht h, oBs, hdOf_c, oBs]
  have e19 : ∀ (z : Int32) (b : Bool), (((ok && b) = true → p < min n mo)) → ∃ v, fX5_heading_19 z (bI b) u = some (if (ok && b) then z else 4, v) ∧ Rc n mo c (if (ok && b) then p + 1 else p) (ok && b) v ∧ Fc u v := fun z b hb => by
    obtain ⟨v, e1, h1, f1⟩ := dem_c hn h b
    unfold fX5_heading_19
    rw [e1, oBs]
    cases q : (ok && b) with
    | false =>
      rw [q] at h1
      rw [if_pos (show bI false = 0 from rfl), if_neg (by decide), if_neg (by decide)]
      exact ⟨v, rfl, h1, f1⟩
    | true =>
      rw [q] at h1
      rw [if_neg (show ¬ bI true = 0 by decide), show gI v 2 2 = nI p from h1.2.1, nI_1, nxs, if_pos rfl, if_pos rfl]
      exact ⟨_, rfl, h1.up (hb q), f1.sI rfl⟩
  have no : ∀ (z : Int32), sgK (amO n mo c 1 p) ok = false → ∃ v, fX5_heading_19 z 0 u = some (nI (hdV (amO n mo c 1 p) ok), v) ∧ Rc n mo c (sgP (amO n mo c 1 p) p ok) (sgK (amO n mo c 1 p) ok) v ∧ Fc u v := fun z hz => by
    obtain ⟨v, e1, h1, f1⟩ := e19 z false (fun w => by rw [Bool.and_false] at w; cases w)
    rw [Bool.and_false, if_neg (by decide)] at e1
    rw [Bool.and_false, if_neg (by decide)] at h1
    refine ⟨v, ?_, ?_, f1⟩
    · rw [show (0 : Int32) = bI false from rfl, e1]
      unfold hdV sgK at *
      cases ok with
      | false => rfl
      | true =>
        rw [Bool.true_and] at hz
        cases ho : amO n mo c 1 p with
        | none => rfl
        | some y => rw [ho] at hz; cases hz
    · unfold sgP
      rw [show (ok && (amO n mo c 1 p).isSome) = false from hz, if_neg (by decide), hz]; exact h1
  cases ok with
  | false =>
    rw [pk_f, if_pos (show hdI (-1) = -1 by decide)]
    exact no _ rfl
  | true =>
    by_cases q : p < min n mo
    · have hcp := hc p (by omega)
      rw [pk_y q, hd_ix _ hcp]
      have ea : amO n mo c 1 p = ixO 1 (c p) := if_pos q
      cases ho : ixO 1 (c p) with
      | none =>
        rw [if_pos (show hV none = -1 from rfl)]
        exact no _ (by rw [ea, ho]; rfl)
      | some x =>
        have hx := ix_lt ho
        have := (strN 1 (by decide)).2
        rw [if_neg (show ¬ hV (some x) = -1 from n31 (by omega))]
        obtain ⟨v, e1, h1, f1⟩ := e19 (hV (some x)) true (fun _ => q)
        rw [ea, ho]
        exact ⟨v, e1, h1, f1⟩
    · rw [pk_n q, if_pos (show hdI (-1) = -1 by decide)]
      exact no _ (by unfold sgK amO; rw [if_neg q]; rfl)
/-! another line -/
theorem more_c (ht : Tok n mo c) (h : Rc n mo c p ok u) : ∃ v, fX5_another u = some (bI (ok && htB n mo c p 59), v) ∧ Rc n mo c (if (ok && htB n mo c p 59) = true then p + 1 else p) (ok && (htB n mo c p 59 || !decide (p < min n mo))) v ∧ Fc u v := by
  have hc := ht.2.2
  have hn := ht.1
  unfold fX5_another
  rw [peek_c ht h, oBs]
  cases ok with
  | false =>
    rw [pk_f, if_pos rfl]
    exact ⟨u, rfl, h, Fm.rf⟩
  | true =>
    by_cases q : p < min n mo
    · have hcp := hc p (by omega)
      obtain ⟨v, e1, h1, f1⟩ := pass_c ht h (s := 59) (by decide)
      rw [pk_y q, if_neg (n31 hcp), show (59 : Int32) = nI 59 from rfl, e1, oBs]
      obtain ⟨w, e2, h2, f2⟩ := dem_c hn h1 (true && htB n mo c p 59)
      rw [e2, oBs, decide_eq_true q]
      cases hb : htB n mo c p 59 with
      | true =>
        rw [hb] at h2
        exact ⟨w, rfl, h2, f1.trans f2⟩
      | false =>
        rw [hb] at h2
        exact ⟨w, rfl, h2, f1.trans f2⟩
    · rw [pk_n q, if_pos rfl]
      have : htB n mo c p 59 = false := by unfold htB; rw [decide_eq_false q]; rfl
      rw [this, decide_eq_false q]
      exact ⟨u, rfl, h, Fm.rf⟩
/-! letters -/
def klP (n mo : Nat) (c : Nat → Nat) (p : Nat) : Nat → Nat × Nat
  | 0 => (p, 0)
  | k + 1 => if htB n mo c (klP n mo c p k).1 (97 + k) then ((klP n mo c p k).1 + 1, (klP n mo c p k).2 ||| 2 ^ k) else klP n mo c p k
theorem kl_lt : ∀ k, (klP n mo c p k).2 < 2 ^ k
  | 0 => Nat.one_pos
  | k + 1 => by
    have := kl_lt k
    rw [klP]
    split
    · exact Nat.or_lt_two_pow (Nat.lt_of_lt_of_le this (Nat.pow_le_pow_right (by decide) (by omega))) (wb_lt2 (by omega))
    · exact Nat.lt_of_lt_of_le this (Nat.pow_le_pow_right (by decide) (by omega))
theorem kinds_c (ht : Tok n mo c) (h : Rc n mo c p ok u) : ∃ v, fX5_kinds u = some (nI (if ok then (klP n mo c p 8).2 else 0), v) ∧ Rc n mo c (if ok then (klP n mo c p 8).1 else p) ok v ∧ Fc u v := by
  unfold fX5_kinds
  cases ok with
  | false =>
    refine lpE (fun f (z : Int32 × Int32) w => fX5_kinds_4 f z.1 z.2 w) 8 (fun i => (nI 0, nI i)) (fun i w => Rc n mo c p false w ∧ Fc u w) (fun o => ∃ v, o = some (nI (if false then (klP n mo c p 8).2 else 0), v) ∧ Rc n mo c (if false then (klP n mo c p 8).1 else p) false v ∧ Fc u v) ?_ ?_ (by omega) (0, 0) rfl ⟨h, Fm.rf⟩
    · rintro f i w hi ⟨hw, hf⟩
      obtain ⟨v, e1, h1, f1⟩ := pass_c ht hw (s := 97 + i) (by omega)
      left
      dsimp only
      rw [fX5_kinds_4, if_neg (show ¬ (8 : Int32) ≤ nI i from nI_ge (b := 8) hi (by omega)), show (97 : Int32) + nI i = nI (97 + i) from nI_add 97 i, e1, oBs, Bool.false_and, if_pos (show bI false = 0 from rfl), nI_1]
      exact ⟨v, ⟨h1, hf.trans f1⟩, rfl⟩
    · rintro f w ⟨hw, hf⟩
      dsimp only
      rw [fX5_kinds_4, if_pos (show (8 : Int32) ≤ nI 8 by decide)]
      exact ⟨w, rfl, hw, hf⟩
  | true =>
    refine lpE (fun f (z : Int32 × Int32) w => fX5_kinds_4 f z.1 z.2 w) 8 (fun i => (nI (klP n mo c p i).2, nI i)) (fun i w => Rc n mo c (klP n mo c p i).1 true w ∧ Fc u w) (fun o => ∃ v, o = some (nI (if true then (klP n mo c p 8).2 else 0), v) ∧ Rc n mo c (if true then (klP n mo c p 8).1 else p) true v ∧ Fc u v) ?_ ?_ (by omega) (0, 0) rfl ⟨h, Fm.rf⟩
    · rintro f i w hi ⟨hw, hf⟩
      obtain ⟨v, e1, h1, f1⟩ := pass_c ht hw (s := 97 + i) (by omega)
      left
      dsimp only
      rw [fX5_kinds_4, if_neg (show ¬ (8 : Int32) ≤ nI i from nI_ge (b := 8) hi (by omega)), show (97 : Int32) + nI i = nI (97 + i) from nI_add 97 i, e1, oBs, Bool.true_and, nI_1]
      rw [Bool.true_and] at h1
      cases hb : htB n mo c (klP n mo c p i).1 (97 + i) with
      | true =>
        rw [hb, if_pos rfl] at h1
        have ek : klP n mo c p (i + 1) = ((klP n mo c p i).1 + 1, (klP n mo c p i).2 ||| 2 ^ i) := by rw [klP, hb, if_pos rfl]
        rw [if_neg (show ¬ bI true = 0 by decide), or_b (by omega), ek]
        exact ⟨v, ⟨h1, hf.trans f1⟩, rfl⟩
      | false =>
        rw [hb, if_neg (by decide)] at h1
        have ek : klP n mo c p (i + 1) = klP n mo c p i := by rw [klP, hb, if_neg (by decide)]
        rw [if_pos (show bI false = 0 from rfl), ek]
        exact ⟨v, ⟨h1, hf.trans f1⟩, rfl⟩
    · rintro f w ⟨hw, hf⟩
      dsimp only
      rw [fX5_kinds_4, if_pos (show (8 : Int32) ≤ nI 8 by decide)]
      exact ⟨w, rfl, hw, hf⟩
/-- from here on no letter passes -/
theorem kl_st {k : Nat} (h : ∀ x, k ≤ x → x < 8 → htB n mo c (klP n mo c p k).1 (97 + x) = false) : ∀ j, k ≤ j → j ≤ 8 → klP n mo c p j = klP n mo c p k
  | 0, h1, _ => by rw [show k = 0 by omega]
  | j + 1, h1, h2 => by
    by_cases e : k = j + 1
    · rw [e]
    · have ih := kl_st h j (by omega) (by omega)
      rw [klP, ih, h j (by omega) (by omega), if_neg (by decide)]
theorem letters_m (ht : Tok n mo c) (h : Rm n mo c p u) : ∃ v, fX12_letters u = some (nI (klP n mo c p 8).2, v) ∧ Rm n mo c (klP n mo c p 8).1 v ∧ Fdm u v := by
  have hc := ht.2.2
  have hn := ht.1
  unfold fX12_letters
  -- after i letters stands a number k of kinds looked at
  refine lp (fun f (z : Int32) w => fX12_letters_2 f z w) 9 (fun i z w => ∃ k, i ≤ k ∧ k ≤ 8 ∧ z = nI (klP n mo c p k).2 ∧ (k = 0 ∨ 2 ^ (k - 1) ≤ (klP n mo c p k).2) ∧ Rm n mo c (klP n mo c p k).1 w ∧ Fdm u w) (fun o => ∃ v, o = some (nI (klP n mo c p 8).2, v) ∧ Rm n mo c (klP n mo c p 8).1 v ∧ Fdm u v) ?_ ?_ FU 0 0 u (FUg (by omega)) (by omega) ⟨0, Nat.le_refl _, (by omega), rfl, Or.inl rfl, h, Fm.rf⟩
  · rintro f i z w hi ⟨k, hik, hk8, rfl, hkb, hw, hf⟩
    have hlt := kl_lt (n := n) (mo := mo) (c := c) (p := p) k
    have hl8 : (klP n mo c p k).2 < 256 := Nat.lt_of_lt_of_le hlt (pow8 (n := 8) hk8)
    have eA := among_m ht hw (j := 0) (by decide)
    rw [am_sg ht] at eA
    have ex : ∀ x, x < 8 → htB n mo c (klP n mo c p k).1 (97 + x) = decide (sgO n mo c 97 8 (klP n mo c p k).1 = some x) := fun x hx => by
      unfold htB sgO
      by_cases q : (klP n mo c p k).1 < min n mo
      · rw [decide_eq_true q, Bool.true_and]
        by_cases q2 : c (klP n mo c p k).1 = 97 + x
        · rw [decide_eq_true q2, if_pos ⟨q, by omega, by omega⟩, decide_eq_true (by rw [q2]; congr 1; omega)]
        · rw [decide_eq_false q2]
          symm
          apply decide_eq_false
          split
          · intro w; apply q2; have := Option.some.inj w; omega
          · intro w; cases w
      · rw [decide_eq_false q, if_neg (fun w => q w.1)]; rfl
    have fin : (∀ x, k ≤ x → x < 8 → htB n mo c (klP n mo c p k).1 (97 + x) = false) → klP n mo c p 8 = klP n mo c p k := fun hq => kl_st hq 8 hk8 (Nat.le_refl _)
    show (∃ s' v, _ ∧ fX12_letters_2 (f + 1) (nI (klP n mo c p k).2) w = _) ∨ _
    rw [fX12_letters_2, show (100 : Nat) = 100 + 0 from rfl, eA, oBs]
    cases ho : sgO n mo c 97 8 (klP n mo c p k).1 with
    | none =>
      right
      rw [if_pos (show hV none < 0 by decide)]
      have := fin (fun x _ hx => by rw [ex x hx, ho]; rfl)
      rw [this]
      exact ⟨w, rfl, hw, hf⟩
    | some x =>
      obtain ⟨a0, a1, a2, a3⟩ := sg_hp ho
      have hx8 : x < 8 := by omega
      obtain ⟨v, e2, h2, f2⟩ := takes_m ht hw (j := 0) (by decide)
      rw [am_sg ht, ho] at e2
      rw [am_sg ht, ho] at h2
      rw [if_neg (show ¬ hV (some x) < 0 from nI_pos (by omega)), eA, oBs, ho, show hV (some x) = nI x from rfl, shr_m (by omega) (by omega)]
      by_cases q : k ≤ x
      · have hz : (klP n mo c p k).2 / 2 ^ x = 0 := Nat.div_eq_of_lt (Nat.lt_of_lt_of_le hlt (Nat.pow_le_pow_right (by decide) q))
        left
        rw [hz, if_pos (show nI 0 = 0 from rfl), e2, oBs, show hV (some x) = nI x from rfl, or_b (by omega)]
        have st1 : klP n mo c p x = klP n mo c p k := by
          have key : ∀ j, k ≤ j → j ≤ x → klP n mo c p j = klP n mo c p k := by
            intro j
            induction j with
            | zero => intro h1 _; rw [show k = 0 by omega]
            | succ j ih =>
              intro h1 h2
              by_cases e : k = j + 1
              · rw [e]
              · have ih2 := ih (by omega) (by omega)
                rw [klP, ih2, ex j (by omega), ho, decide_eq_false (fun w => by have := Option.some.inj w; omega), if_neg (by decide)]
          exact key x q (Nat.le_refl _)
        have ek : klP n mo c p (x + 1) = ((klP n mo c p k).1 + 1, (klP n mo c p k).2 ||| 2 ^ x) := by
          rw [klP, st1, ex x hx8, ho, decide_eq_true rfl, if_pos rfl]
        refine ⟨_, v, ⟨x + 1, (by omega), (by omega), by rw [ek], Or.inr ?_, by rw [ek]; exact h2, hf.trans f2⟩, rfl⟩
        rw [ek, Nat.add_sub_cancel]
        exact Nat.right_le_or
      · have hk0 : ¬ k = 0 := by omega
        have hb2 : 2 ^ (k - 1) ≤ (klP n mo c p k).2 := by rcases hkb with w | w; exact absurd w hk0; exact w
        have hnz : ¬ (klP n mo c p k).2 / 2 ^ x = 0 := fun w => by
          have h1 : 2 ^ x ≤ 2 ^ (k - 1) := Nat.pow_le_pow_right (by decide) (by omega)
          have h2 := (Nat.div_eq_zero_iff_lt (Nat.two_pow_pos x)).mp w
          omega
        have hdl := Nat.div_le_self (klP n mo c p k).2 (2 ^ x)
        right
        rw [if_neg (nI_ne0 (Nat.pos_of_ne_zero hnz) (by omega))]
        have := fin (fun y hy1 hy => by rw [ex y hy, ho]; exact decide_eq_false (fun w => by have := Option.some.inj w; omega))
        rw [this]
        exact ⟨w, rfl, hw, hf⟩
  · rintro f z w ⟨k, h1, h2, _⟩
    omega
