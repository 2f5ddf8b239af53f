/-! claims: the most heirs, and the first way to serve them -/
variable {D : DD} {m m' : MM} {e r : Nat} {u v w : US} {n mo p : Nat} {c : Nat → Nat} {ok : Bool}
/-- the best of some choices: a base, then each better one in turn -/
def hmB (b : Nat) (f : Nat → Option Nat) : Nat → Nat × Option Nat
  | 0 => (b, none)
  | p + 1 => match f p with
    | some x => if (hmB b f p).1 < x then (x, some p) else hmB b f p
    | none => hmB b f p
theorem hmB_n {b : Nat} {f : Nat → Option Nat} {p : Nat} (h : f p = none) : hmB b f (p + 1) = hmB b f p := by rw [hmB, h]
theorem hmB_y {b x : Nat} {f : Nat → Option Nat} {p : Nat} (h : f p = some x) : hmB b f (p + 1) = if (hmB b f p).1 < x then (x, some p) else hmB b f p := by rw [hmB, h]
theorem hmB_ge {b : Nat} {f : Nat → Option Nat} : ∀ n, b ≤ (hmB b f n).1 ∧ ∀ p, p < n → ∀ x, f p = some x → x ≤ (hmB b f n).1
  | 0 => ⟨Nat.le_refl _, fun p hp => absurd hp (Nat.not_lt_zero p)⟩
  | n + 1 => by
    obtain ⟨h1, h2⟩ := hmB_ge (b := b) (f := f) n
    cases hf : f n with
    | none =>
      rw [hmB_n hf]
      refine ⟨h1, fun p hp x hx => ?_⟩
      by_cases q : p = n
      · subst q; rw [hf] at hx; cases hx
      · exact h2 p (by omega) x hx
    | some y =>
      rw [hmB_y hf]
      by_cases w : (hmB b f n).1 < y
      · rw [if_pos w]
        refine ⟨Nat.le_trans h1 (Nat.le_of_lt w), fun p hp x hx => ?_⟩
        by_cases q : p = n
        · subst q; rw [hf] at hx; cases hx; exact Nat.le_refl _
        · exact Nat.le_trans (h2 p (by omega) x hx) (Nat.le_of_lt w)
      · rw [if_neg w]
        refine ⟨h1, fun p hp x hx => ?_⟩
        by_cases q : p = n
        · subst q; rw [hf] at hx; cases hx; omega
        · exact h2 p (by omega) x hx
theorem hmB_no {b : Nat} {f : Nat → Option Nat} : ∀ n, (hmB b f n).2 = none → (hmB b f n).1 = b
  | 0, _ => rfl
  | n + 1, h => by
    cases hf : f n with
    | none => rw [hmB_n hf] at h ⊢; exact hmB_no n h
    | some y =>
      rw [hmB_y hf] at h ⊢
      by_cases w : (hmB b f n).1 < y
      · rw [if_pos w] at h; cases h
      · rw [if_neg w] at h ⊢; exact hmB_no n h
theorem hmB_so {b p : Nat} {f : Nat → Option Nat} : ∀ n, (hmB b f n).2 = some p → p < n ∧ f p = some (hmB b f n).1 ∧ b < (hmB b f n).1 ∧ ∀ p', p' < p → ∀ x, f p' = some x → x < (hmB b f n).1
  | 0, h => by cases h
  | n + 1, h => by
    cases hf : f n with
    | none =>
      rw [hmB_n hf] at h ⊢
      obtain ⟨a1, a2⟩ := hmB_so n h
      exact ⟨(by omega), a2⟩
    | some y =>
      rw [hmB_y hf] at h ⊢
      by_cases w : (hmB b f n).1 < y
      · rw [if_pos w] at h ⊢
        have : n = p := Option.some.inj h
        subst this
        obtain ⟨g1, g2⟩ := hmB_ge (b := b) (f := f) n
        exact ⟨Nat.lt_succ_self _, hf, Nat.lt_of_le_of_lt g1 w, fun p' hp' x hx => Nat.lt_of_le_of_lt (g2 p' hp' x hx) w⟩
      · rw [if_neg w] at h ⊢
        obtain ⟨a1, a2⟩ := hmB_so n h
        exact ⟨(by omega), a2⟩
/-- whether a pane fits a claim and is free -/
def hfB (W : Nat → Nat) (i fr p : Nat) : Bool := (W i).testBit p && fr.testBit p
/-- the most of k claims from i on -/
def hmN (W : Nat → Nat) : Nat → Nat → Nat → Nat
  | 0, _, _ => 0
  | k + 1, i, fr => (hmB (hmN W k (i + 1) fr) (fun p => if hfB W i fr p then some (hmN W k (i + 1) (nm fr (2 ^ p)) + 1) else none) 8).1
def hmF (W : Nat → Nat) (k i fr p : Nat) : Option Nat := if hfB W i fr p then some (hmN W k (i + 1) (nm fr (2 ^ p)) + 1) else none
def hmC (W : Nat → Nat) (k i fr : Nat) : Nat × Option Nat := hmB (hmN W k (i + 1) fr) (hmF W k i fr) 8
theorem hmN_s {W : Nat → Nat} {k i fr : Nat} : hmN W (k + 1) i fr = (hmC W k i fr).1 := rfl
def hmR (fr : Nat) : Option Nat → Nat
  | none => fr
  | some p => nm fr (2 ^ p)
/-- the first way -/
def hmL (W : Nat → Nat) : Nat → Nat → Nat → List (Option Nat)
  | 0, _, _ => []
  | k + 1, i, fr => (hmC W k i fr).2 :: hmL W k (i + 1) (hmR fr (hmC W k i fr).2)
theorem hmF_y {W : Nat → Nat} {k i fr p : Nat} (h : hfB W i fr p = true) : hmF W k i fr p = some (hmN W k (i + 1) (nm fr (2 ^ p)) + 1) := if_pos h
theorem hmF_n {W : Nat → Nat} {k i fr p : Nat} (h : hfB W i fr p = false) : hmF W k i fr p = none := if_neg (by rw [h]; decide)
theorem hmN_le {W : Nat → Nat} : ∀ k i fr, hmN W k i fr ≤ k
  | 0, _, _ => Nat.le_refl _
  | k + 1, i, fr => by
    rw [hmN_s]
    cases h : (hmC W k i fr).2 with
    | none =>
      have h1 := hmB_no 8 h
      have h2 := hmN_le (W := W) k (i + 1) fr
      show (hmB _ _ 8).1 ≤ _
      rw [h1]; omega
    | some p =>
      obtain ⟨_, a2, _⟩ := hmB_so 8 h
      unfold hmF at a2
      by_cases q : hfB W i fr p = true
      · rw [if_pos q] at a2
        have := hmN_le (W := W) k (i + 1) (nm fr (2 ^ p))
        have := Option.some.inj a2
        show (hmB _ _ 8).1 ≤ _
        unfold hmF
        omega
      · rw [if_neg q] at a2; cases a2
/-! owners of panes -/
def hcO (own : Nat → Option Nat) (j : Nat) : Nat := fb_ct (fun p => decide (own p = some j)) 8
theorem hc_pos {own : Nat → Option Nat} {j : Nat} (h : 0 < hcO own j) : ∃ p, p < 8 ∧ own p = some j := by
  obtain ⟨p, h1, h2⟩ := fb_ct_pos.mp h
  exact ⟨p, h1, of_decide_eq_true h2⟩
theorem hc_at {own : Nat → Option Nat} {j p : Nat} (hp : p < 8) (h : own p = some j) : 0 < hcO own j := fb_ct_pos.mpr ⟨p, hp, decide_eq_true h⟩
theorem sm_1 (f : Nat → Nat) (k : Nat) : fb_sm f (k + 1) = f 0 + fb_sm (fun j => f (j + 1)) k := by
  have := fb_sm_split f 1 k
  rw [Nat.add_comm 1 k] at this
  rw [this]
  have h0 : fb_sm f 1 = f 0 := Nat.zero_add _
  rw [h0]
  congr 1
  exact fb_sm_cong (fun j _ => by rw [Nat.add_comm])
theorem ct_1 (f : Nat → Bool) (k : Nat) : fb_ct f (k + 1) = (if f 0 then 1 else 0) + fb_ct (fun j => f (j + 1)) k := by
  have := fb_ct_split f 1 k
  rw [Nat.add_comm 1 k] at this
  rw [this]
  have h0 : fb_ct f 1 = (if f 0 then 1 else 0) := Nat.zero_add _
  rw [h0]
  congr 1
  exact fb_ct_cong (fun j _ => by rw [Nat.add_comm])
theorem nm_p {fr p p' : Nat} (hf : fr < 256) (hp : p' < 8) (hne : ¬ p' = p) (h : fr.testBit p' = true) : (nm fr (2 ^ p)).testBit p' = true := by
  rw [nm_tb (Nat.lt_trans hf (by decide)), h, Nat.testBit_two_pow, decide_eq_false (fun q => hne q.symm)]; rfl
/-- owners serve no more than the most -/
theorem hm_low {W : Nat → Nat} {own : Nat → Option Nat} : ∀ k i fr, fr < 256 → (∀ p, p < 8 → ∀ j, own p = some j → i ≤ j → j < i + k → hfB W j fr p = true) → (∀ j, hcO own j ≤ 1) → fb_sm (fun j => hcO own (i + j)) k ≤ hmN W k i fr
  | 0, _, _, _, _, _ => Nat.le_refl _
  | k + 1, i, fr, hf, h, h1 => by
    rw [sm_1, hmN_s]
    obtain ⟨g1, g2⟩ := hmB_ge (b := hmN W k (i + 1) fr) (f := hmF W k i fr) 8
    have es : ∀ j, hcO own (i + (j + 1)) = hcO own (i + 1 + j) := fun j => by congr 1; omega
    rw [fb_sm_cong (fun j _ => es j)]
    show hcO own i + _ ≤ (hmB _ _ 8).1
    by_cases q : hcO own i = 0
    · have := hm_low (W := W) (own := own) k (i + 1) fr hf (fun p hp j hj a b => h p hp j hj (by omega) (by omega)) h1
      omega
    · obtain ⟨p, hp, ep⟩ := hc_pos (Nat.pos_of_ne_zero q)
      have hfit := h p hp i ep (Nat.le_refl _) (by omega)
      have := hm_low (W := W) (own := own) k (i + 1) (nm fr (2 ^ p)) (nm_256 hf) (fun p' hp' j hj a b => by
        have h2 := h p' hp' j hj (by omega) (by omega)
        unfold hfB at h2 ⊢
        rw [Bool.and_eq_true] at h2 ⊢
        refine ⟨h2.1, nm_p hf hp' (fun q => ?_) h2.2⟩
        subst q
        rw [ep] at hj
        have := Option.some.inj hj
        omega) h1
      have g3 := g2 p hp _ (hmF_y hfit)
      have := h1 i
      omega
/-- a set of panes and claims that bounds the most -/
theorem hm_up {W : Nat → Nat} {Z T : Nat → Bool} : ∀ k i fr, fr < 256 → (∀ j, i ≤ j → j < i + k → Z j = true → ∀ p, p < 8 → hfB W j fr p = true → T p = true) → hmN W k i fr ≤ fb_ct (fun j => !Z (i + j)) k + fb_ct (fun p => T p && fr.testBit p) 8
  | 0, _, _, _, _ => Nat.zero_le _
  | k + 1, i, fr, hf, h => by
    rw [ct_1, hmN_s]
    have es : ∀ j, (!Z (i + (j + 1))) = (!Z (i + 1 + j)) := fun j => by congr 2; omega
    have e0 : (if (!Z (i + 0)) = true then 1 else 0) = if Z i = true then 0 else 1 := by rw [Nat.add_zero]; cases Z i <;> rfl
    show _ ≤ (if (!Z (i + 0)) = true then 1 else 0) + fb_ct (fun j => !Z (i + (j + 1))) k + fb_ct (fun p => T p && fr.testBit p) 8
    rw [e0, fb_ct_cong (fun j _ => es j)]
    cases hc : (hmC W k i fr).2 with
    | none =>
      have h1 := hmB_no 8 hc
      have h2 := hm_up (W := W) (Z := Z) (T := T) k (i + 1) fr hf (fun j a b => h j (by omega) (by omega))
      show (hmB _ _ 8).1 ≤ _
      rw [h1]
      omega
    | some p =>
      obtain ⟨a1, a2, _⟩ := hmB_so 8 hc
      by_cases q : hfB W i fr p = true
      · rw [hmF_y q] at a2
        have a3 := Option.some.inj a2
        have h2 := hm_up (W := W) (Z := Z) (T := T) k (i + 1) (nm fr (2 ^ p)) (nm_256 hf) (fun j a b hz p' hp' hq => h j (by omega) (by omega) hz p' hp' (by
          unfold hfB at hq ⊢
          rw [Bool.and_eq_true] at hq ⊢
          refine ⟨hq.1, ?_⟩
          have := hq.2
          rw [nm_tb (Nat.lt_trans hf (by decide)), Bool.and_eq_true] at this
          exact this.1))
        have hb : ∀ p', (nm fr (2 ^ p)).testBit p' = (fr.testBit p' && !decide (p = p')) := fun p' => by rw [nm_tb (Nat.lt_trans hf (by decide)), Nat.testBit_two_pow]
        have hfr : fr.testBit p = true := by
          unfold hfB at q
          rw [Bool.and_eq_true] at q
          exact q.2
        show (hmB _ _ 8).1 ≤ _
        rw [← a3]
        cases hz : Z i with
        | true =>
          have hT := h i (Nat.le_refl _) (by omega) hz p a1 q
          have e1 : fb_ct (fun k => if k = p then false else (T k && fr.testBit k)) 8 + (if (T p && fr.testBit p) = true then 1 else 0) = fb_ct (fun p' => T p' && fr.testBit p') 8 + (if false = true then 1 else 0) := fb_ct_upd (fun p' => T p' && fr.testBit p') false (n := 8) a1
          have e2 : fb_ct (fun p' => T p' && (nm fr (2 ^ p)).testBit p') 8 = fb_ct (fun k => if k = p then false else (T k && fr.testBit k)) 8 := fb_ct_cong (fun p' _ => by
            rw [hb]
            by_cases w : p' = p
            · subst w; simp
            · rw [if_neg w, decide_eq_false (fun w2 => w w2.symm)]; simp)
          rw [e2] at h2
          rw [hT, hfr, if_pos (show (true && true) = true from rfl), if_neg (show ¬ false = true by decide)] at e1
          rw [if_pos rfl]
          omega
        | false =>
          have e2 : fb_ct (fun p' => T p' && (nm fr (2 ^ p)).testBit p') 8 ≤ fb_ct (fun p' => T p' && fr.testBit p') 8 := fb_ct_sub (fun p' _ w => by
            rw [hb] at w
            simp only [Bool.and_eq_true] at w ⊢
            exact ⟨w.1, w.2.1⟩)
          rw [if_neg (show ¬ false = true by decide)]
          omega
      · rw [hmF_n (ts_nt q)] at a2; cases a2
/-- every pane of a set has an owner: counted by owners -/
theorem ct_own {P : Nat → Bool} {own : Nat → Option Nat} {i k : Nat} : ∀ n, (∀ p, p < n → P p = true → ∃ j, j < k ∧ own p = some (i + j)) → fb_ct P n ≤ fb_sm (fun j => fb_ct (fun p => P p && decide (own p = some (i + j))) n) k
  | 0, _ => Nat.zero_le _
  | n + 1, h => by
    have h1 := ct_own (P := P) (own := own) n (fun p hp => h p (by omega))
    have e : fb_sm (fun j => fb_ct (fun p => P p && decide (own p = some (i + j))) (n + 1)) k = fb_sm (fun j => fb_ct (fun p => P p && decide (own p = some (i + j))) n) k + fb_sm (fun j => if (P n && decide (own n = some (i + j))) then 1 else 0) k := fb_sm_add _ _ k
    rw [e, fb_ct_succ]
    by_cases q : P n = true
    · obtain ⟨j, hj, ej⟩ := h n (by omega) q
      have h2 := fb_sm_part (fun j => if (P n && decide (own n = some (i + j))) then 1 else 0) hj
      have h3 : (if (P n && decide (own n = some (i + j))) then 1 else 0) = 1 := by rw [q, decide_eq_true ej]; rfl
      rw [if_pos q]
      simp only [h3] at h2
      omega
    · rw [if_neg q]; omega
theorem ct_sm {P : Nat → Bool} {g : Nat → Nat} : ∀ n, (∀ j, j < n → P j = true → 1 ≤ g j) → fb_ct P n ≤ fb_sm g n
  | 0, _ => Nat.le_refl _
  | n + 1, h => by
    have h1 := ct_sm (P := P) (g := g) n (fun j hj => h j (by omega))
    rw [fb_ct_succ, fb_sm_succ]
    by_cases q : P n = true
    · have := h n (by omega) q
      rw [if_pos q]; omega
    · rw [if_neg q]; omega
/-- when nothing is left to find, the owners are the most -/
theorem hm_eq {W : Nat → Nat} {own : Nat → Option Nat} {T : Nat → Bool} {k i fr : Nat} (hf : fr < 256) (hv : ∀ p, p < 8 → ∀ j, own p = some j → i ≤ j ∧ j < i + k ∧ hfB W j fr p = true) (h1 : ∀ j, hcO own j ≤ 1) (hT : ∀ p, p < 8 → T p = true → ∃ j, own p = some j ∧ ∀ p', p' < 8 → hfB W j fr p' = true → T p' = true) (hU : ∀ j, i ≤ j → j < i + k → hcO own j = 0 → ∀ p, p < 8 → hfB W j fr p = true → T p = true) : hmN W k i fr = fb_sm (fun j => hcO own (i + j)) k := by
  refine Nat.le_antisymm ?_ (hm_low k i fr hf (fun p hp j hj _ _ => (hv p hp j hj).2.2) h1)
  let Z : Nat → Bool := fun j => decide (hcO own j = 0) || decide (0 < fb_ct (fun p => T p && decide (own p = some j)) 8)
  have hZ : ∀ j, i ≤ j → j < i + k → Z j = true → ∀ p, p < 8 → hfB W j fr p = true → T p = true := by
    intro j a b hz p hp hq
    rcases (Bool.or_eq_true _ _).mp hz with z | z
    · exact hU j a b (of_decide_eq_true z) p hp hq
    · obtain ⟨p2, a1, a2⟩ := fb_ct_pos.mp (of_decide_eq_true z)
      rw [Bool.and_eq_true] at a2
      obtain ⟨j2, b1, b2⟩ := hT p2 a1 a2.1
      have : own p2 = some j := of_decide_eq_true a2.2
      rw [b1] at this
      have := Option.some.inj this
      subst this
      exact b2 p hp hq
  refine Nat.le_trans (hm_up (Z := Z) (T := T) k i fr hf hZ) ?_
  have split : ∀ j, hcO own j = fb_ct (fun p => !T p && decide (own p = some j)) 8 + fb_ct (fun p => T p && decide (own p = some j)) 8 := fun j => by
    unfold hcO
    rw [← fb_ct_or (fun p _ w => by
      have a := w.1
      have b := w.2
      rw [Bool.and_eq_true] at a b
      rw [b.1] at a
      exact absurd a.1 (by decide))]
    exact fb_ct_cong (fun p _ => by cases T p <;> simp)
  rw [fb_sm_cong (fun j _ => split (i + j)), fb_sm_add]
  refine Nat.add_le_add (ct_sm k (fun j hj hz => ?_)) ?_
  · have hz' : Z (i + j) = false := by
      cases q : Z (i + j) with
      | false => rfl
      | true => rw [q] at hz; cases hz
    have hz2 := (Bool.or_eq_false_iff).mp hz'
    have a1 := of_decide_eq_false hz2.1
    have a2 := of_decide_eq_false hz2.2
    have := split (i + j)
    omega
  · refine Nat.le_trans (fb_ct_sub (q := T) (fun p _ w => ?_)) (ct_own 8 (fun p hp hq => ?_))
    · rw [Bool.and_eq_true] at w; exact w.1
    · obtain ⟨j, b1, _⟩ := hT p hp hq
      obtain ⟨c1, c2, _⟩ := hv p hp j b1
      exact ⟨j - i, (by omega), by rw [b1]; congr 1; omega⟩
/-! the class finds a pane -/
def HeW (N : Nat) (W : Nat → Nat) (u : US) : Prop := gI u 12 2 = nI N ∧ ∀ j, j < N → u.2.1 41 j = nI (W j)
def HeO (own : Nat → Option Nat) (u : US) : Prop := ∀ p, p < 8 → u.2.1 42 p = hV (own p)
abbrev FH (u v : US) : Prop := Fm [(12, 3)] [42] [] u v
theorem HeW.fh {N : Nat} {W : Nat → Nat} (h : HeW N W u) (f : FH u v) : HeW N W v := ⟨(f.i 12 2 rfl).trans h.1, fun j hj => by rw [f.a 41 rfl]; exact h.2 j hj⟩
/-- owners that may be -/
def HeV (N : Nat) (W : Nat → Nat) (fr lo : Nat) (own : Nat → Option Nat) : Prop := ∀ p, p < 8 → ∀ j, own p = some j → lo ≤ j ∧ j < N ∧ hfB W j fr p = true
/-- a set of panes out of which no claim leads -/
def HeT (N : Nat) (W : Nat → Nat) (fr : Nat) (own : Nat → Option Nat) (T : Nat → Bool) : Prop := ∀ p, p < 8 → T p = true → ∃ j, own p = some j ∧ j < N ∧ ∀ p', p' < 8 → hfB W j fr p' = true → T p' = true
def HeY (N : Nat) (W : Nat → Nat) (fr lo c tr : Nat) (T : Nat → Bool) (own own' : Nat → Option Nat) : Prop := (∀ j, hcO own' j = hcO own j + (if j = c then 1 else 0)) ∧ (∀ p, p < 8 → tr.testBit p = true → own' p = own p) ∧ (∀ p, p < 8 → T p = true → own' p = own p) ∧ HeV N W fr lo own'
def HeN (N : Nat) (W : Nat → Nat) (fr c tr tr' : Nat) (own : Nat → Option Nat) : Prop := (∀ p, tr.testBit p = true → tr'.testBit p = true) ∧ (∀ p, p < 8 → hfB W c fr p = true → tr'.testBit p = true) ∧ (∀ p, p < 8 → tr'.testBit p = true → tr.testBit p = false → ∃ j, own p = some j ∧ j < N ∧ ∀ p', p' < 8 → hfB W j fr p' = true → tr'.testBit p' = true)
def HeQ (N : Nat) (W : Nat → Nat) (fr lo c tr : Nat) (T : Nat → Bool) (own : Nat → Option Nat) (u : US) (o : Option (Int32 × US)) : Prop := ∃ (b : Bool) (own' : Nat → Option Nat) (tr' : Nat) (v : US), o = some (bI b, v) ∧ HeO own' v ∧ gI v 12 3 = nI tr' ∧ tr' < 256 ∧ FH u v ∧ (b = true → HeY N W fr lo c tr T own own') ∧ (b = false → own' = own ∧ HeN N W fr c tr tr' own) ∧ ((∀ p, p < 8 → hfB W c fr p = true → T p = true) → b = false)
theorem hc_set {own : Nat → Option Nat} {p c j : Nat} (hp : p < 8) : hcO (uN' own p (some c)) j + (if own p = some j then 1 else 0) = hcO own j + (if j = c then 1 else 0) := by
  have h := fb_ct_upd (fun k => decide (own k = some j)) (decide (j = c)) (n := 8) hp
  have e : hcO (uN' own p (some c)) j = fb_ct (fun k => if k = p then decide (j = c) else decide (own k = some j)) 8 := fb_ct_cong (fun k _ => by
    unfold uN'
    by_cases q : k = p
    · rw [if_pos q, if_pos q]
      by_cases q2 : j = c
      · rw [decide_eq_true q2, q2, decide_eq_true rfl]
      · rw [decide_eq_false q2, decide_eq_false (fun w => q2 (Option.some.inj w).symm)]
    · rw [if_neg q, if_neg q])
  rw [e]
  unfold hcO
  have e1 : (if own p = some j then 1 else 0) = (if decide (own p = some j) = true then 1 else 0) := by simp
  have e2 : (if j = c then 1 else 0) = (if decide (j = c) = true then 1 else 0) := by simp
  rw [e1, e2]; exact h
theorem pc_add {x p : Nat} (hp : p < 8) (h : x.testBit p = false) : pcN (x ||| 2 ^ p) = pcN x + 1 := by
  have h1 : fb_ct (fun k => if k = p then true else x.testBit k) 8 + (if x.testBit p = true then 1 else 0) = fb_ct (fun k => x.testBit k) 8 + (if true = true then 1 else 0) := fb_ct_upd (fun k => x.testBit k) true (n := 8) hp
  have e : pcN (x ||| 2 ^ p) = fb_ct (fun k => if k = p then true else x.testBit k) 8 := fb_ct_cong (fun k _ => by
    rw [Nat.testBit_or, Nat.testBit_two_pow]
    by_cases q : k = p
    · rw [if_pos q, decide_eq_true q.symm, Bool.or_true]
    · rw [if_neg q, decide_eq_false (fun w => q w.symm), Bool.or_false])
  rw [h, if_neg (show ¬ false = true by decide), if_pos rfl] at h1
  rw [e]; exact h1
theorem HeO.set {own : Nat → Option Nat} {p c : Nat} (h : HeO own u) (hp : p < 8) : HeO (uN' own p (some c)) (sA u 42 (nI p) (nI c)) := by
  intro k hk
  show upd (u.2.1 42) (nI p).toNatClampNeg (nI c) k = _
  rw [nI_clamp (by omega)]
  unfold uN'
  by_cases q : k = p
  · subst q; rw [pk_us, if_pos rfl]; rfl
  · rw [pk_un q, if_neg q]; exact h k hk
theorem finds_c {N fr lo : Nat} {W : Nat → Nat} {T : Nat → Bool} (hN : N ≤ 8) (hW : ∀ j, j < N → W j < 256) (hf : fr < 256) : ∀ (f c tr d : Nat) (own : Nat → Option Nat) (u : US), c < N → lo ≤ c → tr < 256 → d ≤ pcN tr → 9 ≤ f + pcN tr → HeW N W u → HeO own u → gI u 12 3 = nI tr → HeV N W fr lo own → HeT N W fr own T → HeQ N W fr lo c tr T own u (fX0_finds f (nI c) (nI fr) (nI d) u) := by
  intro f
  induction f with
  | zero =>
    intro c tr d own u hc hlo htr hd h9
    have := pcN_le tr
    omega
  | succ f ih =>
    intro c tr d own u hc hlo htr hd h9 hu hO h3 hv hT
    have hp8 := pcN_le tr
    show HeQ N W fr lo c tr T own u (GX0_finds (fX0_finds f) (nI c) (nI fr) (nI d) u)
    unfold GX0_finds
    rw [if_neg (show ¬ (8 : Int32) < nI d from nI_nlt (a := 8) (by omega) (by omega)), if_neg (nI_pos (by omega)), hu.1, if_pos (nI_lt hc (by omega))]
    refine lpE (fun g (z : Int32) w => fX0_finds_23 (fX0_finds f) (nI c) (nI fr) (nI d) g z w) 8 (fun i => nI i) (fun i w => ∃ trp, trp < 256 ∧ gI w 12 3 = nI trp ∧ HeO own w ∧ FH u w ∧ (∀ p, tr.testBit p = true → trp.testBit p = true) ∧ (∀ p, p < i → hfB W c fr p = true → trp.testBit p = true) ∧ (∀ p, p < 8 → trp.testBit p = true → tr.testBit p = false → ∃ j, own p = some j ∧ j < N ∧ ∀ p', p' < 8 → hfB W j fr p' = true → trp.testBit p' = true)) (fun o => HeQ N W fr lo c tr T own u o) ?_ ?_ (by omega) 0 rfl ⟨tr, htr, h3, hO, Fm.rf, fun _ h => h, fun p hp => absurd hp (Nat.not_lt_zero p), fun p _ h1 h2 => by rw [h1] at h2; cases h2⟩
    · rintro g p w hp ⟨trp, t1, t2, t3, t4, t5, t6, t7⟩
      have hw := hu.fh t4
      have hx : nm (W c &&& fr) trp < 65536 := Nat.lt_of_le_of_lt (nm_le _ _) (Nat.lt_of_le_of_lt Nat.and_le_left (Nat.lt_trans (hW c hc) (by decide)))
      have hbit : (nm (W c &&& fr) trp).testBit p = (hfB W c fr p && !trp.testBit p) := by
        rw [nm_tb (Nat.lt_of_le_of_lt Nat.and_le_left (Nat.lt_trans (hW c hc) (by decide))), Nat.testBit_and]; rfl
      rw [fX0_finds_23, if_neg (show ¬ (8 : Int32) ≤ nI p from nI_ge (b := 8) hp (by omega)), gdi (show c < 8 by omega) (by omega), show gA w 41 (nI c) = nI (W c) from by show w.2.1 41 (nI c).toNatClampNeg = _; rw [nI_clamp (by omega)]; exact hw.2 c hc, t2, fa_and, and_n, has_c hx (by omega), oBs, hbit]
      cases hh : (hfB W c fr p && !trp.testBit p) with
      | false =>
        left
        rw [if_pos (show bI false = 0 from rfl), nI_1]
        refine ⟨w, ⟨trp, t1, t2, t3, t4, t5, fun p' hp' hq => ?_, t7⟩, rfl⟩
        by_cases q : p' = p
        · subst q
          rw [hq, Bool.true_and] at hh
          cases hb : trp.testBit p' with
          | true => rfl
          | false => rw [hb] at hh; cases hh
        · exact t6 p' (by omega) hq
      | true =>
        rw [Bool.and_eq_true] at hh
        have hfit := hh.1
        have hnt : trp.testBit p = false := by
          cases hb : trp.testBit p with
          | false => rfl
          | true => rw [hb] at hh; exact absurd hh.2 (by decide)
        have htn : tr.testBit p = false := by
          cases hb : tr.testBit p with
          | false => rfl
          | true => rw [t5 p hb] at hnt; cases hnt
        have ht1 : trp ||| 2 ^ p < 256 := Nat.or_lt_two_pow (n := 8) t1 (Nat.pow_lt_pow_right (by decide) hp)
        rw [if_neg (show ¬ bI true = 0 by decide), t2, or_b (by omega), nxs]
        obtain ⟨w1, hw1⟩ : ∃ w1, w1 = sI w 12 3 (nI (trp ||| 2 ^ p)) := ⟨_, rfl⟩
        have o1 : HeO own w1 := by rw [hw1]; exact t3
        have f1 : FH u w1 := by rw [hw1]; exact t4.sI rfl
        have g1 : gI w1 12 3 = nI (trp ||| 2 ^ p) := by rw [hw1]; rfl
        have e42 : gA w1 42 (nI p) = hV (own p) := by show w1.2.1 42 (nI p).toNatClampNeg = _; rw [nI_clamp (by omega)]; exact o1 p hp
        rw [← hw1, gdi hp (by omega), e42]
        cases hop : own p with
        | none =>
          right
          rw [if_pos (show hV none = -1 from rfl)]
          unfold fX0_finds_95
          rw [gdi hp (by omega), nxs]
          have hTp : T p = false := by
            cases hb : T p with
            | false => rfl
            | true =>
              obtain ⟨j, a1, _⟩ := hT p hp hb
              rw [hop] at a1; cases a1
          refine ⟨true, uN' own p (some c), trp ||| 2 ^ p, _, rfl, o1.set hp, g1, ht1, f1.sA rfl, fun _ => ⟨fun j => ?_, fun p' hp' hq => ?_, fun p' hp' hq => ?_, fun p' hp' j hj => ?_⟩, fun w => (by cases w), fun hall => ?_⟩
          · have := hc_set (own := own) (c := c) (j := j) hp
            rw [if_neg (show ¬ own p = some j by rw [hop]; exact fun w => by cases w)] at this
            exact this
          · unfold uN'
            rw [if_neg (fun w => by subst w; rw [htn] at hq; cases hq)]
          · unfold uN'
            rw [if_neg (fun w => by subst w; rw [hTp] at hq; cases hq)]
          · unfold uN' at hj
            by_cases q : p' = p
            · rw [if_pos q] at hj
              have := Option.some.inj hj
              subst this; subst q
              exact ⟨hlo, hc, hfit⟩
            · rw [if_neg q] at hj; exact hv p' hp' j hj
          · rw [hall p hp hfit] at hTp; cases hTp
        | some j0 =>
          obtain ⟨v1, v2, v3⟩ := hv p hp j0 hop
          have hj8 : j0 < 8 := by omega
          rw [if_neg (show ¬ hV (some j0) = -1 from n31 (a := j0) (by omega)), gdi hp (by omega)]
          have hpc : pcN (trp ||| 2 ^ p) = pcN trp + 1 := pc_add hp hnt
          have hpm : pcN tr ≤ pcN trp := pc_mono t5
          obtain ⟨b, own1, tr1, w2, e2, o2, g2, l2, f2, y2, n2, T2⟩ := ih j0 (trp ||| 2 ^ p) (d + 1) own w1 v2 v1 ht1 (by omega) (by omega) (hu.fh f1) o1 g1 hv hT
          rw [show nI d + 1 = nI (d + 1) from nI_1 d, show hV (some j0) = nI j0 from rfl, e2, oBs]
          cases b with
          | true =>
            right
            obtain ⟨c1, c2, c3, c4⟩ := y2 rfl
            have hp1 : own1 p = some j0 := by rw [c2 p hp (by rw [Nat.testBit_or, Nat.testBit_two_pow_self, Bool.or_true]), hop]
            rw [if_neg (show ¬ bI true = 0 by decide)]
            unfold fX0_finds_95
            rw [gdi hp (by omega), nxs]
            have hTp : T p = false := by
              cases hb : T p with
              | false => rfl
              | true =>
                obtain ⟨j, a1, a2, a3⟩ := hT p hp hb
                rw [hop] at a1
                have := Option.some.inj a1
                subst this
                have := T2 a3
                cases this
            refine ⟨true, uN' own1 p (some c), tr1, _, rfl, o2.set hp, g2, l2, (f1.trans f2).sA rfl, fun _ => ⟨fun j => ?_, fun p' hp' hq => ?_, fun p' hp' hq => ?_, fun p' hp' j hj => ?_⟩, fun w => (by cases w), fun hall => ?_⟩
            · have h1 := hc_set (own := own1) (c := c) (j := j) hp
              have h2 := c1 j
              rw [hp1] at h1
              by_cases q : j = j0
              · subst q
                rw [if_pos rfl] at h1 h2
                omega
              · rw [if_neg (fun w => q (Option.some.inj w).symm)] at h1
                rw [if_neg q] at h2
                omega
            · unfold uN'
              rw [if_neg (fun w => by subst w; rw [htn] at hq; cases hq)]
              exact c2 p' hp' (by rw [Nat.testBit_or, t5 p' hq, Bool.true_or])
            · unfold uN'
              rw [if_neg (fun w => by subst w; rw [hTp] at hq; cases hq)]
              exact c3 p' hp' hq
            · unfold uN' at hj
              by_cases q : p' = p
              · rw [if_pos q] at hj
                have := Option.some.inj hj
                subst this; subst q
                exact ⟨hlo, hc, hfit⟩
              · rw [if_neg q] at hj; exact c4 p' hp' j hj
            · rw [hall p hp hfit] at hTp; cases hTp
          | false =>
            left
            obtain ⟨eo, a1, a2, a3⟩ := n2 rfl
            rw [eo] at o2
            rw [if_pos (show bI false = 0 from rfl), nI_1]
            have hsub : ∀ p', trp.testBit p' = true → tr1.testBit p' = true := fun p' hq => a1 p' (by rw [Nat.testBit_or, hq, Bool.true_or])
            refine ⟨w2, ⟨tr1, l2, g2, o2, f1.trans f2, fun p' hq => hsub p' (t5 p' hq), fun p' hp' hq => ?_, fun p' hp' hq hn => ?_⟩, rfl⟩
            · by_cases q : p' = p
              · subst q; exact a1 p' (by rw [Nat.testBit_or, Nat.testBit_two_pow_self, Bool.or_true])
              · exact hsub p' (t6 p' (by omega) hq)
            · by_cases q : p' = p
              · subst q; exact ⟨j0, hop, v2, a2⟩
              · cases hb : trp.testBit p' with
                | true =>
                  obtain ⟨j, b1, b2, b3⟩ := t7 p' hp' hb hn
                  exact ⟨j, b1, b2, fun p2 hp2 hq2 => hsub p2 (b3 p2 hp2 hq2)⟩
                | false => exact a3 p' hp' hq (by rw [Nat.testBit_or, hb, Nat.testBit_two_pow, decide_eq_false (fun w => q w.symm)]; rfl)
    · rintro g w ⟨trp, t1, t2, t3, t4, t5, t6, t7⟩
      rw [fX0_finds_23, if_pos (show (8 : Int32) ≤ nI 8 by decide)]
      exact ⟨false, own, trp, w, rfl, t3, t2, t1, t4, fun w => (by cases w), fun _ => ⟨rfl, t5, t6, t7⟩, fun _ => rfl⟩
/-! how many are served -/
theorem fill_c : ∃ v, fJ7_fill_53178 42 (-1) u = some v ∧ HeO (fun _ => none) v ∧ FH u v := by
  unfold fJ7_fill_53178
  rw [gd_t (show okA 42 20 = true from rfl), show Int32.ofNat (ln 42) = nI 8 from rfl]
  refine lpE (fun f (z : Int32) w => fJ7_fill_53178_5 42 (-1) f z (nI 8) w) 8 (fun i => nI i) (fun i w => (∀ p, p < i → w.2.1 42 p = -1) ∧ FH u w) (fun o => ∃ v, o = some v ∧ HeO (fun _ => none) v ∧ FH u v) ?_ ?_ (by omega) 0 rfl ⟨fun p hp => absurd hp (Nat.not_lt_zero p), Fm.rf⟩
  · rintro f i w hi ⟨h1, h2⟩
    left
    rw [fJ7_fill_53178_5, if_neg (nI_ge hi (by omega)), show ln 42 = 8 from rfl, gdi hi (by omega), nxs, nI_1]
    refine ⟨sA w 42 (nI i) (-1), ⟨fun p hp => ?_, h2.sA rfl⟩, rfl⟩
    show upd (w.2.1 42) (nI i).toNatClampNeg (-1) p = -1
    rw [nI_clamp (by omega)]
    by_cases q : p = i
    · subst q; rw [pk_us]
    · rw [pk_un q]; exact h1 p (by omega)
  · rintro f w ⟨h1, h2⟩
    rw [fJ7_fill_53178_5, if_pos (nI_le (Nat.le_refl _) (by omega))]
    exact ⟨w, rfl, fun p hp => h1 p hp, h2⟩
theorem hc_none (j : Nat) : hcO (fun _ => none) j = 0 := fb_ct_zero.mpr (fun _ _ => rfl)
theorem served_c {N fr i : Nat} {W : Nat → Nat} (hN : N ≤ 8) (hW : ∀ j, j < N → W j < 256) (hf : fr < 256) (hi : i ≤ N) (hu : HeW N W u) : ∃ v, fX0_served (nI i) (nI fr) u = some (nI (hmN W (N - i) i fr), v) ∧ FH u v := by
  obtain ⟨u1, e1, o1, f1⟩ := fill_c (u := u)
  unfold fX0_served
  rw [e1, oVs]
  have key : ∀ (k g c : Nat) (own : Nat → Option Nat) (T : Nat → Bool) (w : US), c + k = N → k < g → i ≤ c → HeO own w → FH u w → HeV c W fr i own → (∀ j, hcO own j ≤ 1) → HeT c W fr own T → (∀ j, i ≤ j → j < c → hcO own j = 0 → ∀ p, p < 8 → hfB W j fr p = true → T p = true) → ∃ v, fX0_served_13 (nI i) (nI fr) g (nI (fb_sm (fun j => hcO own (i + j)) (N - i))) (nI c) w = some (nI (hmN W (N - i) i fr), v) ∧ FH u v := by
    intro k
    induction k with
    | zero =>
      intro g c own T w hk hg hic ho hfw hv h1 hT hU
      obtain ⟨g, rfl⟩ : ∃ g', g = g' + 1 := ⟨g - 1, (by omega)⟩
      have : c = N := by omega
      subst this
      rw [fX0_served_13, (hu.fh hfw).1, if_pos (nI_le (Nat.le_refl _) (by omega)), hm_eq (own := own) (T := T) hf (fun p hp j hj => ?_) h1 (fun p hp hq => ?_) (fun j a b => hU j a (by omega))]
      · exact ⟨w, rfl, hfw⟩
      · obtain ⟨a, b, d⟩ := hv p hp j hj
        exact ⟨a, (by omega), d⟩
      · obtain ⟨j, a, b, d⟩ := hT p hp hq
        exact ⟨j, a, d⟩
    | succ k ih =>
      intro g c own T w hk hg hic ho hfw hv h1 hT hU
      obtain ⟨g, rfl⟩ : ∃ g', g = g' + 1 := ⟨g - 1, (by omega)⟩
      have hcN : c < N := by omega
      obtain ⟨w1, hw1⟩ : ∃ w1, w1 = sI w 12 3 0 := ⟨_, rfl⟩
      have hfw1 : FH u w1 := by rw [hw1]; exact hfw.sI rfl
      have ho1 : HeO own w1 := by rw [hw1]; exact ho
      have hv' : HeV N W fr i own := fun p hp j hj => by
        obtain ⟨a, b, d⟩ := hv p hp j hj
        exact ⟨a, (by omega), d⟩
      have hT' : HeT N W fr own T := fun p hp hq => by
        obtain ⟨j, a, b, d⟩ := hT p hp hq
        exact ⟨j, a, (by omega), d⟩
      obtain ⟨b, own', tr', v, e2, o2, g2, l2, f2, y2, n2, T2⟩ := finds_c (T := T) (lo := i) hN hW hf 12 c 0 0 own w1 hcN hic (by decide) (Nat.zero_le _) (by rw [pcN_0]; decide) (hu.fh hfw1) ho1 (by rw [hw1]; rfl) hv' hT'
      have hc0 : hcO own c = 0 := by
        cases q : hcO own c with
        | zero => rfl
        | succ y =>
          obtain ⟨p, hp, hq⟩ := hc_pos (own := own) (j := c) (by omega)
          have := (hv p hp c hq).2.1
          omega
      rw [fX0_served_13, (hu.fh hfw).1, if_neg (nI_ge hcN (by omega)), nxs, ← hw1, show (0 : Int32) = nI 0 from rfl, e2, oBs]
      cases b with
      | true =>
        obtain ⟨c1, c2, c3, c4⟩ := y2 rfl
        have es : fb_sm (fun j => hcO own' (i + j)) (N - i) = fb_sm (fun j => hcO own (i + j)) (N - i) + 1 := by
          have hup := fb_sm_upd (fun j => hcO own (i + j)) 1 (i := c - i) (n := N - i) (by omega)
          have e0 : hcO own (i + (c - i)) = 0 := by rw [show i + (c - i) = c by omega]; exact hc0
          rw [e0, Nat.add_zero] at hup
          rw [← hup]
          exact fb_sm_cong (fun j hj => by
            rw [c1]
            by_cases q : j = c - i
            · subst q
              rw [if_pos (show i + (c - i) = c by omega), if_pos rfl, show i + (c - i) = c by omega, hc0]
            · rw [if_neg (show ¬ i + j = c by omega), if_neg q]; rfl)
        rw [if_neg (show ¬ bI true = nI 0 by decide), nI_1, nI_1, ← es]
        have cn : ∀ p, p < 8 → own' p = some c → True := fun _ _ _ => trivial
        refine ih g (c + 1) own' T v (by omega) (by omega) (by omega) o2 (hfw1.trans f2) (fun p hp j hj => ?_) (fun j => ?_) (fun p hp hq => ?_) (fun j a bb hz p hp hq => ?_)
        · obtain ⟨a, bb, d⟩ := c4 p hp j hj
          refine ⟨a, ?_, d⟩
          have h3 := hc_at hp hj
          have h4 := c1 j
          by_cases q : j = c
          · omega
          · rw [if_neg q] at h4
            obtain ⟨p2, hp2, hq2⟩ := hc_pos (own := own) (j := j) (by omega)
            have := (hv p2 hp2 j hq2).2.1
            omega
        · have h4 := c1 j
          by_cases q : j = c
          · subst q; rw [if_pos rfl, hc0] at h4; omega
          · rw [if_neg q] at h4; have := h1 j; omega
        · obtain ⟨j, a, bb, d⟩ := hT p hp hq
          exact ⟨j, by rw [c3 p hp hq]; exact a, (by omega), d⟩
        · have h4 := c1 j
          have hjc : ¬ j = c := fun q => by rw [if_pos q] at h4; omega
          rw [if_neg hjc] at h4
          exact hU j a (by omega) (by omega) p hp hq
      | false =>
        obtain ⟨eo, a1, a2, a3⟩ := n2 rfl
        rw [eo] at o2
        rw [if_pos (show bI false = nI 0 from rfl), nI_1]
        refine ih g (c + 1) own (fun p => T p || tr'.testBit p) v (by omega) (by omega) (by omega) o2 (hfw1.trans f2) (fun p hp j hj => ?_) h1 (fun p hp hq => ?_) (fun j a bb hz p hp hq => ?_)
        · obtain ⟨a, bb, d⟩ := hv p hp j hj
          exact ⟨a, (by omega), d⟩
        · rcases (Bool.or_eq_true _ _).mp hq with q | q
          · obtain ⟨j, a, bb, d⟩ := hT p hp q
            exact ⟨j, a, (by omega), fun p' hp' hq' => by show (T p' || tr'.testBit p') = true; rw [d p' hp' hq']; rfl⟩
          · obtain ⟨j, a, bb, d⟩ := a3 p hp q (Nat.zero_testBit p)
            refine ⟨j, a, ?_, fun p' hp' hq' => by show (T p' || tr'.testBit p') = true; rw [d p' hp' hq', Bool.or_true]⟩
            have := (hv p hp j a).2.1
            omega
        · by_cases q : j = c
          · subst q; show (T p || tr'.testBit p) = true; rw [a2 p hp hq, Bool.or_true]
          · show (T p || tr'.testBit p) = true
            rw [hU j a (by omega) hz p hp hq]; rfl
  have h0 : fb_sm (fun j => hcO (fun _ => none) (i + j)) (N - i) = 0 := by
    rw [fb_sm_cong (g := fun _ => 0) (fun j _ => hc_none (i + j)), fb_sm_const, Nat.mul_zero]
  have := key (N - i) FU i (fun _ => none) (fun _ => false) u1 (by omega) (show N - i < 4096 by omega) (Nat.le_refl _) o1 f1 (fun p _ j hj => by cases hj) (fun j => by rw [hc_none]; decide) (fun p _ h => by cases h) (fun j a b => by omega)
  rw [h0] at this
  exact this
