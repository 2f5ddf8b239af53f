/-! claims: the most heirs, and the first way to serve them -/
variable {D : DD} {m m' : MM} {e r : Nat} {u v w : US} {n mo p : Nat} {c : Nat → Nat} {ok : Bool}
/-- the best of some choices: a base, then each better one in turn -/
def hmB (b : Nat) (f : Nat → Option Nat) : Nat → Nat × Option Nat
  | 0 => (b, none)
  | p + 1 => match f p with
    | some x => if (hmB b f p).1 < x then (x, some p) else hmB b f p
    | none => hmB b f p
theorem hmB_n {b : Nat} {f : Nat → Option Nat} {p : Nat} (h : f p = none) : hmB b f (p + 1) = hmB b f p := by rw [hmB, h]
theorem hmB_y {b x : Nat} {f : Nat → Option Nat} {p : Nat} (h : f p = some x) : hmB b f (p + 1) = if (hmB b f p).1 < x then (x, some p) else hmB b f p := by rw [hmB, h]
theorem hmB_ge {b : Nat} {f : Nat → Option Nat} : ∀ n, b ≤ (hmB b f n).1 ∧ ∀ p, p < n → ∀ x, f p = some x → x ≤ (hmB b f n).1
  | 0 => ⟨Nat.le_refl _, fun p hp => absurd hp (Nat.not_lt_zero p)⟩
  | n + 1 => by
    obtain ⟨h1, h2⟩ := hmB_ge (b := b) (f := f) n
    cases hf : f n with
    | none =>
      rw [hmB_n hf]
      refine ⟨h1, fun p hp x hx => ?_⟩
      by_cases q : p = n
      · subst q; rw [hf] at hx; cases hx
      · exact h2 p (by omega) x hx
    | some y =>
      rw [hmB_y hf]
      by_cases w : (hmB b f n).1 < y
      · rw [if_pos w]
        refine ⟨Nat.le_trans h1 (Nat.le_of_lt w), fun p hp x hx => ?_⟩
        by_cases q : p = n
        · subst q; rw [hf] at hx; cases hx; exact Nat.le_refl _
        · exact Nat.le_trans (h2 p (by omega) x hx) (Nat.le_of_lt w)
      · rw [if_neg w]
        refine ⟨h1, fun p hp x hx => ?_⟩
        by_cases q : p = n
        · subst q; rw [hf] at hx; cases hx; omega
        · exact h2 p (by omega) x hx
theorem hmB_no {b : Nat} {f : Nat → Option Nat} : ∀ n, (hmB b f n).2 = none → (hmB b f n).1 = b
  | 0, _ => rfl
  | n + 1, h => by
    cases hf : f n with
    | none => rw [hmB_n hf] at h ⊢; exact hmB_no n h
    | some y =>
      rw [hmB_y hf] at h ⊢
      by_cases w : (hmB b f n).1 < y
      · rw [if_pos w] at h; cases h
      · rw [if_neg w] at h ⊢; exact hmB_no n h
theorem hmB_so {b p : Nat} {f : Nat → Option Nat} : ∀ n, (hmB b f n).2 = some p → p < n ∧ f p = some (hmB b f n).1 ∧ b < (hmB b f n).1 ∧ ∀ p', p' < p → ∀ x, f p' = some x → x < (hmB b f n).1
  | 0, h => by cases h
  | n + 1, h => by
    cases hf : f n with
    | none =>
      rw [hmB_n hf] at h ⊢
      obtain ⟨a1, a2⟩ := hmB_so n h
      exact ⟨(by omega), a2⟩
    | some y =>
      rw [hmB_y hf] at h ⊢
      by_cases w : (hmB b f n).1 < y
      · rw [if_pos w] at h ⊢
        have : n = p := Option.some.inj h
        subst this
        obtain ⟨g1, g2⟩ := hmB_ge (b := b) (f := f) n
        exact ⟨Nat.lt_succ_self _, hf, Nat.lt_of_le_of_lt g1 w, fun p' hp' x hx => Nat.lt_of_le_of_lt (g2 p' hp' x hx) w⟩
      · rw [if_neg w] at h ⊢
        obtain ⟨a1, a2⟩ := hmB_so n h
        exact ⟨(by omega), a2⟩
/-- whether a pane fits a claim and is free -/
def hfB (W : Nat → Nat) (i fr p : Nat) : Bool := (W i).testBit p && fr.testBit p
/-- the most of k claims from i on -/
def hmN (W : Nat → Nat) : Nat → Nat → Nat → Nat
  | 0, _, _ => 0
  | k + 1, i, fr => (hmB (hmN W k (i + 1) fr) (fun p => if hfB W i fr p then some (hmN W k (i + 1) (nm fr (2 ^ p)) + 1) else none) 8).1
def hmF (W : Nat → Nat) (k i fr p : Nat) : Option Nat := if hfB W i fr p then some (hmN W k (i + 1) (nm fr (2 ^ p)) + 1) else none
def hmC (W : Nat → Nat) (k i fr : Nat) : Nat × Option Nat := hmB (hmN W k (i + 1) fr) (hmF W k i fr) 8
theorem hmN_s {W : Nat → Nat} {k i fr : Nat} : hmN W (k + 1) i fr = (hmC W k i fr).1 := rfl
def hmR (fr : Nat) : Option Nat → Nat
  | none => fr
  | some p => nm fr (2 ^ p)
/-- the first way -/
def hmL (W : Nat → Nat) : Nat → Nat → Nat → List (Option Nat)
  | 0, _, _ => []
  | k + 1, i, fr => (hmC W k i fr).2 :: hmL W k (i + 1) (hmR fr (hmC W k i fr).2)
theorem hmF_y {W : Nat → Nat} {k i fr p : Nat} (h : hfB W i fr p = true) : hmF W k i fr p = some (hmN W k (i + 1) (nm fr (2 ^ p)) + 1) := if_pos h
theorem hmF_n {W : Nat → Nat} {k i fr p : Nat} (h : hfB W i fr p = false) : hmF W k i fr p = none := if_neg (by rw [h]; decide)
theorem hmN_le {W : Nat → Nat} : ∀ k i fr, hmN W k i fr ≤ k
  | 0, _, _ => Nat.le_refl _
  | k + 1, i, fr => by
    rw [hmN_s]
    cases h : (hmC W k i fr).2 with
    | none =>
      have h1 := hmB_no 8 h
      have h2 := hmN_le (W := W) k (i + 1) fr
      show (hmB _ _ 8).1 ≤ _
      rw [h1]; omega
    | some p =>
      obtain ⟨_, a2, _⟩ := hmB_so 8 h
      unfold hmF at a2
      by_cases q : hfB W i fr p = true
      · rw [if_pos q] at a2
        have := hmN_le (W := W) k (i + 1) (nm fr (2 ^ p))
        have := Option.some.inj a2
        show (hmB _ _ 8).1 ≤ _
        unfold hmF
        omega
      · rw [if_neg q] at a2; cases a2
/-! owners of panes -/
def hcO (own : Nat → Option Nat) (j : Nat) : Nat := fb_ct (fun p => decide (own p = some j)) 8
theorem hc_pos {own : Nat → Option Nat} {j : Nat} (h : 0 < hcO own j) : ∃ p, p < 8 ∧ own p = some j := by
  obtain ⟨p, h1, h2⟩ := fb_ct_pos.mp h
  exact ⟨p, h1, of_decide_eq_true h2⟩
theorem hc_at {own : Nat → Option Nat} {j p : Nat} (hp : p < 8) (h : own p = some j) : 0 < hcO own j := fb_ct_pos.mpr ⟨p, hp, decide_eq_true h⟩
theorem sm_1 (f : Nat → Nat) (k : Nat) : fb_sm f (k + 1) = f 0 + fb_sm (fun j => f (j + 1)) k := by
  have := fb_sm_split f 1 k
  rw [Nat.add_comm 1 k] at this
  rw [this]
  have h0 : fb_sm f 1 = f 0 := Nat.zero_add _
  rw [h0]
  congr 1
  exact fb_sm_cong (fun j _ => by rw [Nat.add_comm])
theorem ct_1 (f : Nat → Bool) (k : Nat) : fb_ct f (k + 1) = (if f 0 then 1 else 0) + fb_ct (fun j => f (j + 1)) k := by
  have := fb_ct_split f 1 k
  rw [Nat.add_comm 1 k] at this
  rw [this]
  have h0 : fb_ct f 1 = (if f 0 then 1 else 0) := Nat.zero_add _
  rw [h0]
  congr 1
  exact fb_ct_cong (fun j _ => by rw [Nat.add_comm])
theorem nm_p {fr p p' : Nat} (hf : fr < 256) (hp : p' < 8) (hne : ¬ p' = p) (h : fr.testBit p' = true) : (nm fr (2 ^ p)).testBit p' = true := by
  rw [nm_tb (Nat.lt_trans hf (by decide)), h, Nat.testBit_two_pow, decide_eq_false (fun q => hne q.symm)]; rfl
/-- owners serve no more than the most -/
theorem hm_low {W : Nat → Nat} {own : Nat → Option Nat} : ∀ k i fr, fr < 256 → (∀ p, p < 8 → ∀ j, own p = some j → i ≤ j → j < i + k → hfB W j fr p = true) → (∀ j, hcO own j ≤ 1) → fb_sm (fun j => hcO own (i + j)) k ≤ hmN W k i fr
  | 0, _, _, _, _, _ => Nat.le_refl _
  | k + 1, i, fr, hf, h, h1 => by
    rw [sm_1, hmN_s]
    obtain ⟨g1, g2⟩ := hmB_ge (b := hmN W k (i + 1) fr) (f := hmF W k i fr) 8
    have es : ∀ j, hcO own (i + (j + 1)) = hcO own (i + 1 + j) := fun j => by congr 1; omega
    rw [fb_sm_cong (fun j _ => es j)]
    show hcO own i + _ ≤ (hmB _ _ 8).1
    by_cases q : hcO own i = 0
    · have := hm_low (W := W) (own := own) k (i + 1) fr hf (fun p hp j hj a b => h p hp j hj (by omega) (by omega)) h1
      omega
    · obtain ⟨p, hp, ep⟩ := hc_pos (Nat.pos_of_ne_zero q)
      have hfit := h p hp i ep (Nat.le_refl _) (by omega)
      have := hm_low (W := W) (own := own) k (i + 1) (nm fr (2 ^ p)) (nm_256 hf) (fun p' hp' j hj a b => by
        have h2 := h p' hp' j hj (by omega) (by omega)
        unfold hfB at h2 ⊢
        rw [Bool.and_eq_true] at h2 ⊢
        refine ⟨h2.1, nm_p hf hp' (fun q => ?_) h2.2⟩
        subst q
        rw [ep] at hj
        have := Option.some.inj hj
        omega) h1
      have g3 := g2 p hp _ (hmF_y hfit)
      have := h1 i
      omega
/-- a set of panes and claims that bounds the most -/
theorem hm_up {W : Nat → Nat} {Z T : Nat → Bool} : ∀ k i fr, fr < 256 → (∀ j, i ≤ j → j < i + k → Z j = true → ∀ p, p < 8 → hfB W j fr p = true → T p = true) → hmN W k i fr ≤ fb_ct (fun j => !Z (i + j)) k + fb_ct (fun p => T p && fr.testBit p) 8
  | 0, _, _, _, _ => Nat.zero_le _
  | k + 1, i, fr, hf, h => by
    rw [ct_1, hmN_s]
    have es : ∀ j, (!Z (i + (j + 1))) = (!Z (i + 1 + j)) := fun j => by congr 2; omega
    have e0 : (if (!Z (i + 0)) = true then 1 else 0) = if Z i = true then 0 else 1 := by rw [Nat.add_zero]; cases Z i <;> rfl
    show _ ≤ (if (!Z (i + 0)) = true then 1 else 0) + fb_ct (fun j => !Z (i + (j + 1))) k + fb_ct (fun p => T p && fr.testBit p) 8
    rw [e0, fb_ct_cong (fun j _ => es j)]
    cases hc : (hmC W k i fr).2 with
    | none =>
      have h1 := hmB_no 8 hc
      have h2 := hm_up (W := W) (Z := Z) (T := T) k (i + 1) fr hf (fun j a b => h j (by omega) (by omega))
      show (hmB _ _ 8).1 ≤ _
      rw [h1]
      omega
    | some p =>
      obtain ⟨a1, a2, _⟩ := hmB_so 8 hc
      by_cases q : hfB W i fr p = true
      · rw [hmF_y q] at a2
        have a3 := Option.some.inj a2
        have h2 := hm_up (W := W) (Z := Z) (T := T) k (i + 1) (nm fr (2 ^ p)) (nm_256 hf) (fun j a b hz p' hp' hq => h j (by omega) (by omega) hz p' hp' (by
          unfold hfB at hq ⊢
          rw [Bool.and_eq_true] at hq ⊢
          refine ⟨hq.1, ?_⟩
          have := hq.2
          rw [nm_tb (Nat.lt_trans hf (by decide)), Bool.and_eq_true] at this
          exact this.1))
        have hb : ∀ p', (nm fr (2 ^ p)).testBit p' = (fr.testBit p' && !decide (p = p')) := fun p' => by rw [nm_tb (Nat.lt_trans hf (by decide)), Nat.testBit_two_pow]
        have hfr : fr.testBit p = true := by
          unfold hfB at q
          rw [Bool.and_eq_true] at q
          exact q.2
        show (hmB _ _ 8).1 ≤ _
        rw [← a3]
        cases hz : Z i with
        | true =>
          have hT := h i (Nat.le_refl _) (by omega) hz p a1 q
          have e1 : fb_ct (fun k => if k = p then false else (T k && fr.testBit k)) 8 + (if (T p && fr.testBit p) = true then 1 else 0) = fb_ct (fun p' => T p' && fr.testBit p') 8 + (if false = true then 1 else 0) := fb_ct_upd (fun p' => T p' && fr.testBit p') false (n := 8) a1
          have e2 : fb_ct (fun p' => T p' && (nm fr (2 ^ p)).testBit p') 8 = fb_ct (fun k => if k = p then false else (T k && fr.testBit k)) 8 := fb_ct_cong (fun p' _ => by
            rw [hb]
            by_cases w : p' = p
            · subst w; simp
            · rw [if_neg w, decide_eq_false (fun w2 => w w2.symm)]; simp)
          rw [e2] at h2
          rw [hT, hfr, if_pos (show (true && true) = true from rfl), if_neg (show ¬ false = true by decide)] at e1
          rw [if_pos rfl]
          omega
        | false =>
          have e2 : fb_ct (fun p' => T p' && (nm fr (2 ^ p)).testBit p') 8 ≤ fb_ct (fun p' => T p' && fr.testBit p') 8 := fb_ct_sub (fun p' _ w => by
            rw [hb] at w
            simp only [Bool.and_eq_true] at w ⊢
            exact ⟨w.1, w.2.1⟩)
          rw [if_neg (show ¬ false = true by decide)]
          omega
      · rw [hmF_n (ts_nt q)] at a2; cases a2
/-- every pane of a set has an owner: counted by owners -/
theorem ct_own {P : Nat → Bool} {own : Nat → Option Nat} {i k : Nat} : ∀ n, (∀ p, p < n → P p = true → ∃ j, j < k ∧ own p = some (i + j)) → fb_ct P n ≤ fb_sm (fun j => fb_ct (fun p => P p && decide (own p = some (i + j))) n) k
  | 0, _ => Nat.zero_le _
  | n + 1, h => by
    have h1 := ct_own (P := P) (own := own) n (fun p hp => h p (by omega))
    have e : fb_sm (fun j => fb_ct (fun p => P p && decide (own p = some (i + j))) (n + 1)) k = fb_sm (fun j => fb_ct (fun p => P p && decide (own p = some (i + j))) n) k + fb_sm (fun j => if (P n && decide (own n = some (i + j))) then 1 else 0) k := fb_sm_add _ _ k
    rw [e, fb_ct_succ]
    by_cases q : P n = true
    · obtain ⟨j, hj, ej⟩ := h n (by omega) q
      have h2 := fb_sm_part (fun j => if (P n && decide (own n = some (i + j))) then 1 else 0) hj
      have h3 : (if (P n && decide (own n = some (i + j))) then 1 else 0) = 1 := by rw [q, decide_eq_true ej]; rfl
      rw [if_pos q]
      simp only [h3] at h2
      omega
    · rw [if_neg q]; omega
theorem ct_sm {P : Nat → Bool} {g : Nat → Nat} : ∀ n, (∀ j, j < n → P j = true → 1 ≤ g j) → fb_ct P n ≤ fb_sm g n
  | 0, _ => Nat.le_refl _
  | n + 1, h => by
    have h1 := ct_sm (P := P) (g := g) n (fun j hj => h j (by omega))
    rw [fb_ct_succ, fb_sm_succ]
    by_cases q : P n = true
    · have := h n (by omega) q
      rw [if_pos q]; omega
    · rw [if_neg q]; omega
/-- when nothing is left to find, the owners are the most -/
theorem hm_eq {W : Nat → Nat} {own : Nat → Option Nat} {T : Nat → Bool} {k i fr : Nat} (hf : fr < 256) (hv : ∀ p, p < 8 → ∀ j, own p = some j → i ≤ j ∧ j < i + k ∧ hfB W j fr p = true) (h1 : ∀ j, hcO own j ≤ 1) (hT : ∀ p, p < 8 → T p = true → ∃ j, own p = some j ∧ ∀ p', p' < 8 → hfB W j fr p' = true → T p' = true) (hU : ∀ j, i ≤ j → j < i + k → hcO own j = 0 → ∀ p, p < 8 → hfB W j fr p = true → T p = true) : hmN W k i fr = fb_sm (fun j => hcO own (i + j)) k := by
  refine Nat.le_antisymm ?_ (hm_low k i fr hf (fun p hp j hj _ _ => (hv p hp j hj).2.2) h1)
  let Z : Nat → Bool := fun j => decide (hcO own j = 0) || decide (0 < fb_ct (fun p => T p && decide (own p = some j)) 8)
  have hZ : ∀ j, i ≤ j → j < i + k → Z j = true → ∀ p, p < 8 → hfB W j fr p = true → T p = true := by
    intro j a b hz p hp hq
    rcases (Bool.or_eq_true _ _).mp hz with z | z
    · exact hU j a b (of_decide_eq_true z) p hp hq
    · obtain ⟨p2, a1, a2⟩ := fb_ct_pos.mp (of_decide_eq_true z)
      rw [Bool.and_eq_true] at a2
      obtain ⟨j2, b1, b2⟩ := hT p2 a1 a2.1
      have : own p2 = some j := of_decide_eq_true a2.2
      rw [b1] at this
      have := Option.some.inj this
      subst this
      exact b2 p hp hq
  refine Nat.le_trans (hm_up (Z := Z) (T := T) k i fr hf hZ) ?_
  have split : ∀ j, hcO own j = fb_ct (fun p => !T p && decide (own p = some j)) 8 + fb_ct (fun p => T p && decide (own p = some j)) 8 := fun j => by
    unfold hcO
    rw [← fb_ct_or (fun p _ w => by
      have a := w.1
      have b := w.2
      rw [Bool.and_eq_true] at a b
      rw [b.1] at a
      exact absurd a.1 (by decide))]
    exact fb_ct_cong (fun p _ => by cases T p <;> simp)
  rw [fb_sm_cong (fun j _ => split (i + j)), fb_sm_add]
  refine Nat.add_le_add (ct_sm k (fun j hj hz => ?_)) ?_
  · have hz' : Z (i + j) = false := by
      cases q : Z (i + j) with
      | false => rfl
      | true => rw [q] at hz; cases hz
    have hz2 := (Bool.or_eq_false_iff).mp hz'
    have a1 := of_decide_eq_false hz2.1
    have a2 := of_decide_eq_false hz2.2
    have := split (i + j)
    omega
  · refine Nat.le_trans (fb_ct_sub (q := T) (fun p _ w => ?_)) (ct_own 8 (fun p hp hq => ?_))
    · rw [Bool.and_eq_true] at w; exact w.1
    · obtain ⟨j, b1, _⟩ := hT p hp hq
      obtain ⟨c1, c2, _⟩ := hv p hp j b1
      exact ⟨j - i, (by omega), by rw [b1]; congr 1; omega⟩
/-! the class finds a pane -/
def HeW (N : Nat) (W : Nat → Nat) (u : US) : Prop := gI u 12 2 = nI N ∧ ∀ j, j < N → u.2.1 41 j = nI (W j)
def HeO (own : Nat → Option Nat) (u : US) : Prop := ∀ p, p < 8 → u.2.1 42 p = hV (own p)
abbrev FH (u v : US) : Prop := Fm [(12, 3)] [42] [] u v
theorem HeW.fh {N : Nat} {W : Nat → Nat} (h : HeW N W u) (f : FH u v) : HeW N W v := ⟨(f.i 12 2 rfl).trans h.1, fun j hj => by rw [f.a 41 rfl]; exact h.2 j hj⟩
/-- owners that may be -/
def HeV (N : Nat) (W : Nat → Nat) (fr lo : Nat) (own : Nat → Option Nat) : Prop := ∀ p, p < 8 → ∀ j, own p = some j → lo ≤ j ∧ j < N ∧ hfB W j fr p = true
/-- a set of panes out of which no claim leads -/
def HeT (N : Nat) (W : Nat → Nat) (fr : Nat) (own : Nat → Option Nat) (T : Nat → Bool) : Prop := ∀ p, p < 8 → T p = true → ∃ j, own p = some j ∧ j < N ∧ ∀ p', p' < 8 → hfB W j fr p' = true → T p' = true
def HeY (N : Nat) (W : Nat → Nat) (fr lo c tr : Nat) (T : Nat → Bool) (own own' : Nat → Option Nat) : Prop := (∀ j, hcO own' j = hcO own j + (if j = c then 1 else 0)) ∧ (∀ p, p < 8 → tr.testBit p = true → own' p = own p) ∧ (∀ p, p < 8 → T p = true → own' p = own p) ∧ HeV N W fr lo own'
def HeN (N : Nat) (W : Nat → Nat) (fr c tr tr' : Nat) (own : Nat → Option Nat) : Prop := (∀ p, tr.testBit p = true → tr'.testBit p = true) ∧ (∀ p, p < 8 → hfB W c fr p = true → tr'.testBit p = true) ∧ (∀ p, p < 8 → tr'.testBit p = true → tr.testBit p = false → ∃ j, own p = some j ∧ j < N ∧ ∀ p', p' < 8 → hfB W j fr p' = true → tr'.testBit p' = true)
def HeQ (N : Nat) (W : Nat → Nat) (fr lo c tr : Nat) (T : Nat → Bool) (own : Nat → Option Nat) (u : US) (o : Option (Int32 × US)) : Prop := ∃ (b : Bool) (own' : Nat → Option Nat) (tr' : Nat) (v : US), o = some (bI b, v) ∧ HeO own' v ∧ gI v 12 3 = nI tr' ∧ tr' < 256 ∧ FH u v ∧ (b = true → HeY N W fr lo c tr T own own') ∧ (b = false → own' = own ∧ HeN N W fr c tr tr' own) ∧ ((∀ p, p < 8 → hfB W c fr p = true → T p = true) → b = false)
theorem hc_set {own : Nat → Option Nat} {p c j : Nat} (hp : p < 8) : hcO (uN' own p (some c)) j + (if own p = some j then 1 else 0) = hcO own j + (if j = c then 1 else 0) := by
  have h := fb_ct_upd (fun k => decide (own k = some j)) (decide (j = c)) (n := 8) hp
  have e : hcO (uN' own p (some c)) j = fb_ct (fun k => if k = p then decide (j = c) else decide (own k = some j)) 8 := fb_ct_cong (fun k _ => by
    unfold uN'
    by_cases q : k = p
    · rw [if_pos q, if_pos q]
      by_cases q2 : j = c
      · rw [decide_eq_true q2, q2, decide_eq_true rfl]
      · rw [decide_eq_false q2, decide_eq_false (fun w => q2 (Option.some.inj w).symm)]
    · rw [if_neg q, if_neg q])
  rw [e]
  unfold hcO
  have e1 : (if own p = some j then 1 else 0) = (if decide (own p = some j) = true then 1 else 0) := by simp
  have e2 : (if j = c then 1 else 0) = (if decide (j = c) = true then 1 else 0) := by simp
  rw [e1, e2]; exact h
theorem pc_add {x p : Nat} (hp : p < 8) (h : x.testBit p = false) : pcN (x ||| 2 ^ p) = pcN x + 1 := by
  have h1 : fb_ct (fun k => if k = p then true else x.testBit k) 8 + (if x.testBit p = true then 1 else 0) = fb_ct (fun k => x.testBit k) 8 + (if true = true then 1 else 0) := fb_ct_upd (fun k => x.testBit k) true (n := 8) hp
  have e : pcN (x ||| 2 ^ p) = fb_ct (fun k => if k = p then true else x.testBit k) 8 := fb_ct_cong (fun k _ => by
    rw [Nat.testBit_or, Nat.testBit_two_pow]
    by_cases q : k = p
    · rw [if_pos q, decide_eq_true q.symm, Bool.or_true]
    · rw [if_neg q, decide_eq_false (fun w => q w.symm), Bool.or_false])
  rw [h, if_neg (show ¬ false = true by decide), if_pos rfl] at h1
  rw [e]; exact h1
theorem HeO.set {own : Nat → Option Nat} {p c : Nat} (h : HeO own u) (hp : p < 8) : HeO (uN' own p (some c)) (sA u 42 (nI p) (nI c)) := by
  intro k hk
  show upd (u.2.1 42) (nI p).toNatClampNeg (nI c) k = _
  rw [nI_clamp (by omega)]
  unfold uN'
  by_cases q : k = p
  · subst q; rw [pk_us, if_pos rfl]; rfl
  · rw [pk_un q, if_neg q]; exact h k hk
theorem finds_c {N fr lo : Nat} {W : Nat → Nat} {T : Nat → Bool} (hN : N ≤ 8) (hW : ∀ j, j < N → W j < 256) (hf : fr < 256) : ∀ (f c tr d : Nat) (own : Nat → Option Nat) (u : US), c < N → lo ≤ c → tr < 256 → d ≤ pcN tr → 9 ≤ f + pcN tr → HeW N W u → HeO own u → gI u 12 3 = nI tr → HeV N W fr lo own → HeT N W fr own T → HeQ N W fr lo c tr T own u (fX0_finds f (nI c) (nI fr) (nI d) u) := by
  intro f
  induction f with
  | zero =>
    intro c tr d own u hc hlo htr hd h9
    have := pcN_le tr
    omega
  | succ f ih =>
    intro c tr d own u hc hlo htr hd h9 hu hO h3 hv hT
    have hp8 := pcN_le tr
    show HeQ N W fr lo c tr T own u (GX0_finds (fX0_finds f) (nI c) (nI fr) (nI d) u)
    unfold GX0_finds
    rw [if_neg (show ¬ (8 : Int32) < nI d from nI_nlt (a := 8) (by omega) (by omega)), if_neg (nI_pos (by omega)), hu.1, if_pos (nI_lt hc (by omega))]
    refine lpE (fun g (z : Int32) w => fX0_finds_23 (fX0_finds f) (nI c) (nI fr) (nI d) g z w) 8 (fun i => nI i) (fun i w => ∃ trp, trp < 256 ∧ gI w 12 3 = nI trp ∧ HeO own w ∧ FH u w ∧ (∀ p, tr.testBit p = true → trp.testBit p = true) ∧ (∀ p, p < i → hfB W c fr p = true → trp.testBit p = true) ∧ (∀ p, p < 8 → trp.testBit p = true → tr.testBit p = false → ∃ j, own p = some j ∧ j < N ∧ ∀ p', p' < 8 → hfB W j fr p' = true → trp.testBit p' = true)) (fun o => HeQ N W fr lo c tr T own u o) ?_ ?_ (by omega) 0 rfl ⟨tr, htr, h3, hO, Fm.rf, fun _ h => h, fun p hp => absurd hp (Nat.not_lt_zero p), fun p _ h1 h2 => by rw [h1] at h2; cases h2⟩
    · rintro g p w hp ⟨trp, t1, t2, t3, t4, t5, t6, t7⟩
      have hw := hu.fh t4
      have hx : nm (W c &&& fr) trp < 65536 := Nat.lt_of_le_of_lt (nm_le _ _) (Nat.lt_of_le_of_lt Nat.and_le_left (Nat.lt_trans (hW c hc) (by decide)))
      have hbit : (nm (W c &&& fr) trp).testBit p = (hfB W c fr p && !trp.testBit p) := by
        rw [nm_tb (Nat.lt_of_le_of_lt Nat.and_le_left (Nat.lt_trans (hW c hc) (by decide))), Nat.testBit_and]; rfl
      rw [fX0_finds_23, if_neg (show ¬ (8 : Int32) ≤ nI p from nI_ge (b := 8) hp (by omega)), gdi (show c < 8 by omega) (by omega), show gA w 41 (nI c) = nI (W c) from by show w.2.1 41 (nI c).toNatClampNeg = _; rw [nI_clamp (by omega)]; exact hw.2 c hc, t2, fa_and, and_n, has_c hx (by omega), oBs, hbit]
      cases hh : (hfB W c fr p && !trp.testBit p) with
      | false =>
        left
        rw [if_pos (show bI false = 0 from rfl), nI_1]
        refine ⟨w, ⟨trp, t1, t2, t3, t4, t5, fun p' hp' hq => ?_, t7⟩, rfl⟩
        by_cases q : p' = p
        · subst q
          rw [hq, Bool.true_and] at hh
          cases hb : trp.testBit p' with
          | true => rfl
          | false => rw [hb] at hh; cases hh
        · exact t6 p' (by omega) hq
      | true =>
        rw [Bool.and_eq_true] at hh
        have hfit := hh.1
        have hnt : trp.testBit p = false := by
          cases hb : trp.testBit p with
          | false => rfl
          | true => rw [hb] at hh; exact absurd hh.2 (by decide)
        have htn : tr.testBit p = false := by
          cases hb : tr.testBit p with
          | false => rfl
          | true => rw [t5 p hb] at hnt; cases hnt
        have ht1 : trp ||| 2 ^ p < 256 := Nat.or_lt_two_pow (n := 8) t1 (Nat.pow_lt_pow_right (by decide) hp)
        rw [if_neg (show ¬ bI true = 0 by decide), t2, or_b (by omega), nxs]
        obtain ⟨w1, hw1⟩ : ∃ w1, w1 = sI w 12 3 (nI (trp ||| 2 ^ p)) := ⟨_, rfl⟩
        have o1 : HeO own w1 := by rw [hw1]; exact t3
        have f1 : FH u w1 := by rw [hw1]; exact t4.sI rfl
        have g1 : gI w1 12 3 = nI (trp ||| 2 ^ p) := by rw [hw1]; rfl
        have e42 : gA w1 42 (nI p) = hV (own p) := by show w1.2.1 42 (nI p).toNatClampNeg = _; rw [nI_clamp (by omega)]; exact o1 p hp
        rw [← hw1, gdi hp (by omega), e42]
        cases hop : own p with
        | none =>
          right
          rw [if_pos (show hV none = -1 from rfl)]
          unfold fX0_finds_95
          rw [gdi hp (by omega), nxs]
          have hTp : T p = false := by
            cases hb : T p with
            | false => rfl
            | true =>
              obtain ⟨j, a1, _⟩ := hT p hp hb
              rw [hop] at a1; cases a1
          refine ⟨true, uN' own p (some c), trp ||| 2 ^ p, _, rfl, o1.set hp, g1, ht1, f1.sA rfl, fun _ => ⟨fun j => ?_, fun p' hp' hq => ?_, fun p' hp' hq => ?_, fun p' hp' j hj => ?_⟩, fun w => (by cases w), fun hall => ?_⟩
          · have := hc_set (own := own) (c := c) (j := j) hp
            rw [if_neg (show ¬ own p = some j by rw [hop]; exact fun w => by cases w)] at this
            exact this
          · unfold uN'
            rw [if_neg (fun w => by subst w; rw [htn] at hq; cases hq)]
          · unfold uN'
            rw [if_neg (fun w => by subst w; rw [hTp] at hq; cases hq)]
          · unfold uN' at hj
            by_cases q : p' = p
            · rw [if_pos q] at hj
              have := Option.some.inj hj
              subst this; subst q
              exact ⟨hlo, hc, hfit⟩
            · rw [if_neg q] at hj; exact hv p' hp' j hj
          · rw [hall p hp hfit] at hTp; cases hTp
        | some j0 =>
          obtain ⟨v1, v2, v3⟩ := hv p hp j0 hop
          have hj8 : j0 < 8 := by omega
          rw [if_neg (show ¬ hV (some j0) = -1 from n31 (a := j0) (by omega)), gdi hp (by omega)]
          have hpc : pcN (trp ||| 2 ^ p) = pcN trp + 1 := pc_add hp hnt
          have hpm : pcN tr ≤ pcN trp := pc_mono t5
          obtain ⟨b, own1, tr1, w2, e2, o2, g2, l2, f2, y2, n2, T2⟩ := ih j0 (trp ||| 2 ^ p) (d + 1) own w1 v2 v1 ht1 (by omega) (by omega) (hu.fh f1) o1 g1 hv hT
          rw [show nI d + 1 = nI (d + 1) from nI_1 d, show hV (some j0) = nI j0 from rfl, e2, oBs]
          cases b with
          | true =>
            right
            obtain ⟨c1, c2, c3, c4⟩ := y2 rfl
            have hp1 : own1 p = some j0 := by rw [c2 p hp (by rw [Nat.testBit_or, Nat.testBit_two_pow_self, Bool.or_true]), hop]
            rw [if_neg (show ¬ bI true = 0 by decide)]
            unfold fX0_finds_95
            rw [gdi hp (by omega), nxs]
            have hTp : T p = false := by
              cases hb : T p with
              | false => rfl
              | true =>
                obtain ⟨j, a1, a2, a3⟩ := hT p hp hb
                rw [hop] at a1
                have := Option.some.inj a1
                subst this
                have := T2 a3
                cases this
            refine ⟨true, uN' own1 p (some c), tr1, _, rfl, o2.set hp, g2, l2, (f1.trans f2).sA rfl, fun _ => ⟨fun j => ?_, fun p' hp' hq => ?_, fun p' hp' hq => ?_, fun p' hp' j hj => ?_⟩, fun w => (by cases w), fun hall => ?_⟩
            · have h1 := hc_set (own := own1) (c := c) (j := j) hp
              have h2 := c1 j
              rw [hp1] at h1
              by_cases q : j = j0
              · subst q
                rw [if_pos rfl] at h1 h2
                omega
              · rw [if_neg (fun w => q (Option.some.inj w).symm)] at h1
                rw [if_neg q] at h2
                omega
            · unfold uN'
              rw [if_neg (fun w => by subst w; rw [htn] at hq; cases hq)]
              exact c2 p' hp' (by rw [Nat.testBit_or, t5 p' hq, Bool.true_or])
            · unfold uN'
              rw [if_neg (fun w => by subst w; rw [hTp] at hq; cases hq)]
              exact c3 p' hp' hq
            · unfold uN' at hj
              by_cases q : p' = p
              · rw [if_pos q] at hj
                have := Option.some.inj hj
                subst this; subst q
                exact ⟨hlo, hc, hfit⟩
              · rw [if_neg q] at hj; exact c4 p' hp' j hj
            · rw [hall p hp hfit] at hTp; cases hTp
          | false =>
            left
            obtain ⟨eo, a1, a2, a3⟩ := n2 rfl
            rw [eo] at o2
            rw [if_pos (show bI false = 0 from rfl), nI_1]
            have hsub : ∀ p', trp.testBit p' = true → tr1.testBit p' = true := fun p' hq => a1 p' (by rw [Nat.testBit_or, hq, Bool.true_or])
            refine ⟨w2, ⟨tr1, l2, g2, o2, f1.trans f2, fun p' hq => hsub p' (t5 p' hq), fun p' hp' hq => ?_, fun p' hp' hq hn => ?_⟩, rfl⟩
            · by_cases q : p' = p
              · subst q; exact a1 p' (by rw [Nat.testBit_or, Nat.testBit_two_pow_self, Bool.or_true])
              · exact hsub p' (t6 p' (by omega) hq)
            · by_cases q : p' = p
              · subst q; exact ⟨j0, hop, v2, a2⟩
              · cases hb : trp.testBit p' with
                | true =>
                  obtain ⟨j, b1, b2, b3⟩ := t7 p' hp' hb hn
                  exact ⟨j, b1, b2, fun p2 hp2 hq2 => hsub p2 (b3 p2 hp2 hq2)⟩
                | false => exact a3 p' hp' hq (by rw [Nat.testBit_or, hb, Nat.testBit_two_pow, decide_eq_false (fun w => q w.symm)]; rfl)
    · rintro g w ⟨trp, t1, t2, t3, t4, t5, t6, t7⟩
      rw [fX0_finds_23, if_pos (show (8 : Int32) ≤ nI 8 by decide)]
      exact ⟨false, own, trp, w, rfl, t3, t2, t1, t4, fun w => (by cases w), fun _ => ⟨rfl, t5, t6, t7⟩, fun _ => rfl⟩
/-! how many are served -/
theorem fill_c : ∃ v, fJ7_fill_53178 42 (-1) u = some v ∧ HeO (fun _ => none) v ∧ FH u v := by
  unfold fJ7_fill_53178
  rw [gd_t (show okA 42 20 = true from rfl), show Int32.ofNat (ln 42) = nI 8 from rfl]
  refine lpE (fun f (z : Int32) w => fJ7_fill_53178_5 42 (-1) f z (nI 8) w) 8 (fun i => nI i) (fun i w => (∀ p, p < i → w.2.1 42 p = -1) ∧ FH u w) (fun o => ∃ v, o = some v ∧ HeO (fun _ => none) v ∧ FH u v) ?_ ?_ (by omega) 0 rfl ⟨fun p hp => absurd hp (Nat.not_lt_zero p), Fm.rf⟩
  · rintro f i w hi ⟨h1, h2⟩
    left
    rw [fJ7_fill_53178_5, if_neg (nI_ge hi (by omega)), show ln 42 = 8 from rfl, gdi hi (by omega), nxs, nI_1]
    refine ⟨sA w 42 (nI i) (-1), ⟨fun p hp => ?_, h2.sA rfl⟩, rfl⟩
    show upd (w.2.1 42) (nI i).toNatClampNeg (-1) p = -1
    rw [nI_clamp (by omega)]
    by_cases q : p = i
    · subst q; rw [pk_us]
    · rw [pk_un q]; exact h1 p (by omega)
  · rintro f w ⟨h1, h2⟩
    rw [fJ7_fill_53178_5, if_pos (nI_le (Nat.le_refl _) (by omega))]
    exact ⟨w, rfl, fun p hp => h1 p hp, h2⟩
theorem hc_none (j : Nat) : hcO (fun _ => none) j = 0 := fb_ct_zero.mpr (fun _ _ => rfl)
theorem served_c {N fr i : Nat} {W : Nat → Nat} (hN : N ≤ 8) (hW : ∀ j, j < N → W j < 256) (hf : fr < 256) (hi : i ≤ N) (hu : HeW N W u) : ∃ v, fX0_served (nI i) (nI fr) u = some (nI (hmN W (N - i) i fr), v) ∧ FH u v := by
  obtain ⟨u1, e1, o1, f1⟩ := fill_c (u := u)
  unfold fX0_served
  rw [e1, oVs]
  have key : ∀ (k g c : Nat) (own : Nat → Option Nat) (T : Nat → Bool) (w : US), c + k = N → k < g → i ≤ c → HeO own w → FH u w → HeV c W fr i own → (∀ j, hcO own j ≤ 1) → HeT c W fr own T → (∀ j, i ≤ j → j < c → hcO own j = 0 → ∀ p, p < 8 → hfB W j fr p = true → T p = true) → ∃ v, fX0_served_13 (nI i) (nI fr) g (nI (fb_sm (fun j => hcO own (i + j)) (N - i))) (nI c) w = some (nI (hmN W (N - i) i fr), v) ∧ FH u v := by
    intro k
    induction k with
    | zero =>
      intro g c own T w hk hg hic ho hfw hv h1 hT hU
      obtain ⟨g, rfl⟩ : ∃ g', g = g' + 1 := ⟨g - 1, (by omega)⟩
      have : c = N := by omega
      subst this
      rw [fX0_served_13, (hu.fh hfw).1, if_pos (nI_le (Nat.le_refl _) (by omega)), hm_eq (own := own) (T := T) hf (fun p hp j hj => ?_) h1 (fun p hp hq => ?_) (fun j a b => hU j a (by omega))]
      · exact ⟨w, rfl, hfw⟩
      · obtain ⟨a, b, d⟩ := hv p hp j hj
        exact ⟨a, (by omega), d⟩
      · obtain ⟨j, a, b, d⟩ := hT p hp hq
        exact ⟨j, a, d⟩
    | succ k ih =>
      intro g c own T w hk hg hic ho hfw hv h1 hT hU
      obtain ⟨g, rfl⟩ : ∃ g', g = g' + 1 := ⟨g - 1, (by omega)⟩
      have hcN : c < N := by omega
      obtain ⟨w1, hw1⟩ : ∃ w1, w1 = sI w 12 3 0 := ⟨_, rfl⟩
      have hfw1 : FH u w1 := by rw [hw1]; exact hfw.sI rfl
      have ho1 : HeO own w1 := by rw [hw1]; exact ho
      have hv' : HeV N W fr i own := fun p hp j hj => by
        obtain ⟨a, b, d⟩ := hv p hp j hj
        exact ⟨a, (by omega), d⟩
      have hT' : HeT N W fr own T := fun p hp hq => by
        obtain ⟨j, a, b, d⟩ := hT p hp hq
        exact ⟨j, a, (by omega), d⟩
      obtain ⟨b, own', tr', v, e2, o2, g2, l2, f2, y2, n2, T2⟩ := finds_c (T := T) (lo := i) hN hW hf 12 c 0 0 own w1 hcN hic (by decide) (Nat.zero_le _) (by rw [pcN_0]; decide) (hu.fh hfw1) ho1 (by rw [hw1]; rfl) hv' hT'
      have hc0 : hcO own c = 0 := by
        cases q : hcO own c with
        | zero => rfl
        | succ y =>
          obtain ⟨p, hp, hq⟩ := hc_pos (own := own) (j := c) (by omega)
          have := (hv p hp c hq).2.1
          omega
      rw [fX0_served_13, (hu.fh hfw).1, if_neg (nI_ge hcN (by omega)), nxs, ← hw1, show (0 : Int32) = nI 0 from rfl, e2, oBs]
      cases b with
      | true =>
        obtain ⟨c1, c2, c3, c4⟩ := y2 rfl
        have es : fb_sm (fun j => hcO own' (i + j)) (N - i) = fb_sm (fun j => hcO own (i + j)) (N - i) + 1 := by
          have hup := fb_sm_upd (fun j => hcO own (i + j)) 1 (i := c - i) (n := N - i) (by omega)
          have e0 : hcO own (i + (c - i)) = 0 := by rw [show i + (c - i) = c by omega]; exact hc0
          rw [e0, Nat.add_zero] at hup
          rw [← hup]
          exact fb_sm_cong (fun j hj => by
            rw [c1]
            by_cases q : j = c - i
            · subst q
              rw [if_pos (show i + (c - i) = c by omega), if_pos rfl, show i + (c - i) = c by omega, hc0]
            · rw [if_neg (show ¬ i + j = c by omega), if_neg q]; rfl)
        rw [if_neg (show ¬ bI true = nI 0 by decide), nI_1, nI_1, ← es]
        have cn : ∀ p, p < 8 → own' p = some c → True := fun _ _ _ => trivial
        refine ih g (c + 1) own' T v (by omega) (by omega) (by omega) o2 (hfw1.trans f2) (fun p hp j hj => ?_) (fun j => ?_) (fun p hp hq => ?_) (fun j a bb hz p hp hq => ?_)
        · obtain ⟨a, bb, d⟩ := c4 p hp j hj
          refine ⟨a, ?_, d⟩
          have h3 := hc_at hp hj
          have h4 := c1 j
          by_cases q : j = c
          · omega
          · rw [if_neg q] at h4
            obtain ⟨p2, hp2, hq2⟩ := hc_pos (own := own) (j := j) (by omega)
            have := (hv p2 hp2 j hq2).2.1
            omega
        · have h4 := c1 j
          by_cases q : j = c
          · subst q; rw [if_pos rfl, hc0] at h4; omega
          · rw [if_neg q] at h4; have := h1 j; omega
        · obtain ⟨j, a, bb, d⟩ := hT p hp hq
          exact ⟨j, by rw [c3 p hp hq]; exact a, (by omega), d⟩
        · have h4 := c1 j
          have hjc : ¬ j = c := fun q => by rw [if_pos q] at h4; omega
          rw [if_neg hjc] at h4
          exact hU j a (by omega) (by omega) p hp hq
      | false =>
        obtain ⟨eo, a1, a2, a3⟩ := n2 rfl
        rw [eo] at o2
        rw [if_pos (show bI false = nI 0 from rfl), nI_1]
        refine ih g (c + 1) own (fun p => T p || tr'.testBit p) v (by omega) (by omega) (by omega) o2 (hfw1.trans f2) (fun p hp j hj => ?_) h1 (fun p hp hq => ?_) (fun j a bb hz p hp hq => ?_)
        · obtain ⟨a, bb, d⟩ := hv p hp j hj
          exact ⟨a, (by omega), d⟩
        · rcases (Bool.or_eq_true _ _).mp hq with q | q
          · obtain ⟨j, a, bb, d⟩ := hT p hp q
            exact ⟨j, a, (by omega), fun p' hp' hq' => by show (T p' || tr'.testBit p') = true; rw [d p' hp' hq']; rfl⟩
          · obtain ⟨j, a, bb, d⟩ := a3 p hp q (Nat.zero_testBit p)
            refine ⟨j, a, ?_, fun p' hp' hq' => by show (T p' || tr'.testBit p') = true; rw [d p' hp' hq', Bool.or_true]⟩
            have := (hv p hp j a).2.1
            omega
        · by_cases q : j = c
          · subst q; show (T p || tr'.testBit p) = true; rw [a2 p hp hq, Bool.or_true]
          · show (T p || tr'.testBit p) = true
            rw [hU j a (by omega) hz p hp hq]; rfl
  have h0 : fb_sm (fun j => hcO (fun _ => none) (i + j)) (N - i) = 0 := by
    rw [fb_sm_cong (g := fun _ => 0) (fun j _ => hc_none (i + j)), fb_sm_const, Nat.mul_zero]
  have := key (N - i) FU i (fun _ => none) (fun _ => false) u1 (by omega) (show N - i < 4096 by omega) (Nat.le_refl _) o1 f1 (fun p _ j hj => by cases hj) (fun j => by rw [hc_none]; decide) (fun p _ h => by cases h) (fun j a b => by omega)
  rw [h0] at this
  exact this
/-! claims: who gets which -/
theorem least_c {N fr i k : Nat} {W : Nat → Nat} (hN : N ≤ 8) (hW : ∀ j, j < N → W j < 256) (hf : fr < 256) (hi : i + (k + 1) = N) (hu : HeW N W u) : ∃ v, fX0_leastFor (nI i) (nI fr) (nI (hmN W (k + 1) i fr)) u = some (hV (hmC W k i fr).2, v) ∧ FH u v := by
  obtain ⟨u1, e1, f1⟩ := served_c (i := i + 1) hN hW hf (by omega) hu
  have ek : N - (i + 1) = k := by omega
  have hle := hmN_le (W := W) (k + 1) i fr
  have hle2 := hmN_le (W := W) k (i + 1) fr
  rw [ek] at e1
  unfold fX0_leastFor
  rw [nI_1, e1, oBs]
  have eN : hmN W (k + 1) i fr = (hmC W k i fr).1 := rfl
  cases hc : (hmC W k i fr).2 with
  | none =>
    have h1 : (hmC W k i fr).1 = hmN W k (i + 1) fr := hmB_no 8 hc
    rw [eN, h1, if_neg (nI_nlt (Nat.le_refl _) (by omega))]
    exact ⟨u1, rfl, f1⟩
  | some p0 =>
    obtain ⟨a1, a2, a3, a4⟩ := hmB_so 8 hc
    have a3' : hmN W k (i + 1) fr < hmN W (k + 1) i fr := a3
    rw [if_pos (nI_lt a3' (by omega))]
    have hwi := hW i (by omega)
    have hx : W i &&& fr < 65536 := Nat.lt_of_le_of_lt Nat.and_le_left (Nat.lt_trans hwi (by decide))
    have hbit : ∀ p, (W i &&& fr).testBit p = hfB W i fr p := fun p => Nat.testBit_and _ _ _
    have st : ∀ (g p : Nat) (w : US), p < 8 → FH u w → hfB W i fr p = true → ∃ w2, fX0_leastFor_17 (nI i) (nI fr) (nI (hmN W (k + 1) i fr)) (g + 1) (nI p) w = (if nI (hmN W k (i + 1) (nm fr (2 ^ p))) < nI (hmN W (k + 1) i fr - 1) then fX0_leastFor_17 (nI i) (nI fr) (nI (hmN W (k + 1) i fr)) g (nI (p + 1)) w2 else some (nI p, w2)) ∧ FH u w2 := by
      intro g p w hp hfw hfit
      obtain ⟨w2, e2, f2⟩ := served_c (i := i + 1) (fr := nm fr (2 ^ p)) hN hW (nm_256 hf) (by omega) (hu.fh hfw)
      rw [ek] at e2
      refine ⟨w2, ?_, hfw.trans f2⟩
      rw [fX0_leastFor_17, if_neg (show ¬ (8 : Int32) ≤ nI p from nI_ge (b := 8) hp (by omega)), gdi (show i < 8 by omega) (by omega), show gA w 41 (nI i) = nI (W i) from by show w.2.1 41 (nI i).toNatClampNeg = _; rw [nI_clamp (by omega)]; exact (hu.fh hfw).2 i (by omega), fa_and, has_c hx (by omega), oBs, hbit, hfit, if_neg (show ¬ bI true = 0 by decide), sh1 p (by omega), and_n, nI_1, e2, oBs, nI_1, subl _ (by omega)]
    refine lpE (fun g (z : Int32) w => fX0_leastFor_17 (nI i) (nI fr) (nI (hmN W (k + 1) i fr)) g z w) p0 (fun p => nI p) (fun _ w => FH u w) (fun o => ∃ v, o = some (hV (some p0), v) ∧ FH u v) ?_ ?_ (by omega) 0 rfl f1
    · rintro g p w hp hfw
      left
      cases hfit : hfB W i fr p with
      | true =>
        obtain ⟨w2, e2, f2⟩ := st g p w (by omega) hfw hfit
        have := a4 p hp _ (hmF_y hfit)
        have h5 : hmN W k (i + 1) (nm fr (2 ^ p)) + 1 < hmN W (k + 1) i fr := this
        rw [e2, if_pos (nI_lt (by omega) (by omega))]
        exact ⟨w2, f2, rfl⟩
      | false =>
        refine ⟨w, hfw, ?_⟩
        rw [fX0_leastFor_17, if_neg (show ¬ (8 : Int32) ≤ nI p from nI_ge (b := 8) (by omega) (by omega)), gdi (show i < 8 by omega) (by omega), show gA w 41 (nI i) = nI (W i) from by show w.2.1 41 (nI i).toNatClampNeg = _; rw [nI_clamp (by omega)]; exact (hu.fh hfw).2 i (by omega), fa_and, has_c hx (by omega), oBs, hbit, hfit, if_pos (show bI false = 0 from rfl), nI_1]
    · rintro g w hfw
      cases hfit : hfB W i fr p0 with
      | true =>
        obtain ⟨w2, e2, f2⟩ := st g p0 w a1 hfw hfit
        rw [hmF_y hfit] at a2
        have a5 : hmN W k (i + 1) (nm fr (2 ^ p0)) + 1 = hmN W (k + 1) i fr := Option.some.inj a2
        rw [e2, if_neg (nI_nlt (by omega) (by omega))]
        exact ⟨w2, rfl, f2⟩
      | false => rw [hmF_n hfit] at a2; cases a2
theorem m1p (n : Nat) : nI (n + 1) + (-1) = nI n := (Int32.sub_eq_add_neg (nI (n + 1)) 1).symm.trans (m1n n)
def hmT (L : List (Option Nat)) : List Int64 := L.map (fun o => (hV o).toInt64)
theorem tell23 {N : Nat} {W : Nat → Nat} (hN : N ≤ 8) (hW : ∀ j, j < N → W j < 256) (x : Int32) : ∀ (k i fr g : Nat) (l : List Int64) (w : US), i + k = N → k < g → fr < 256 → HeW N W w → TolC l w → l.length = i → ∃ v, fX0_tellMost_23 g (nI fr) x (nI (hmN W k i fr)) (nI i) w = some (x, v) ∧ TolC (l ++ hmT (hmL W k i fr)) v ∧ Fm [(12, 3), (8, 1)] [42] [33] w v := by
  intro k
  induction k with
  | zero =>
    intro i fr g l w hk hg hf hw hl hn
    obtain ⟨g, rfl⟩ : ∃ g', g = g' + 1 := ⟨g - 1, (by omega)⟩
    rw [fX0_tellMost_23, hw.1, if_pos (nI_le (by omega) (by omega))]
    exact ⟨w, rfl, by rw [show hmT (hmL W 0 i fr) = [] from rfl, List.append_nil]; exact hl, Fm.rf⟩
  | succ k ih =>
    intro i fr g l w hk hg hf hw hl hn
    obtain ⟨g, rfl⟩ : ∃ g', g = g' + 1 := ⟨g - 1, (by omega)⟩
    obtain ⟨w1, e1, f1⟩ := least_c hN hW hf hk hw
    obtain ⟨w2, e2, t2, f2⟩ := ad_c (hl.fm f1 rfl rfl) (by omega) (hV (hmC W k i fr).2).toInt64
    have f12 : Fm [(12, 3), (8, 1)] [42] [33] w w2 := (f1.mono rfl rfl rfl).trans (f2.mono rfl rfl rfl)
    have hw2 : HeW N W w2 := ⟨(f12.i 12 2 rfl).trans hw.1, fun j hj => by rw [f12.a 41 rfl]; exact hw.2 j hj⟩
    have hl2 : (l ++ [(hV (hmC W k i fr).2).toInt64]).length = i + 1 := by rw [List.length_append, hn]; rfl
    have hL : ∀ fr', hmR fr (hmC W k i fr).2 = fr' → l ++ hmT (hmL W (k + 1) i fr) = (l ++ [(hV (hmC W k i fr).2).toInt64]) ++ hmT (hmL W k (i + 1) fr') := fun fr' h => by
      rw [List.append_assoc, ← h]; rfl
    rw [fX0_tellMost_23, hw.1, if_neg (nI_ge (show i < N by omega) (by omega)), e1, oBs, e2, oVs, nI_1]
    cases hc : (hmC W k i fr).2 with
    | none =>
      have h1 : hmN W (k + 1) i fr = hmN W k (i + 1) fr := hmB_no 8 hc
      obtain ⟨v, e3, t3, f3⟩ := ih (i + 1) fr g _ w2 (by omega) (by omega) hf hw2 t2 hl2
      rw [if_pos (show hV none = -1 from rfl), h1, e3]
      exact ⟨v, rfl, by rw [hL fr (by rw [hc]; rfl)]; exact t3, f12.trans f3⟩
    | some p0 =>
      obtain ⟨a1, a2, a3, a4⟩ := hmB_so 8 hc
      cases hfit : hfB W i fr p0 with
      | false => rw [hmF_n hfit] at a2; cases a2
      | true =>
        rw [hmF_y hfit] at a2
        have a5 : hmN W k (i + 1) (nm fr (2 ^ p0)) + 1 = hmN W (k + 1) i fr := Option.some.inj a2
        obtain ⟨v, e3, t3, f3⟩ := ih (i + 1) (nm fr (2 ^ p0)) g _ w2 (by omega) (by omega) (nm_256 hf) hw2 t2 hl2
        rw [if_neg (show ¬ hV (some p0) = -1 from n31 (a := p0) (by omega)), show hV (some p0) = nI p0 from rfl, sh1 p0 (by omega), and_n, ← a5, m1p, e3]
        exact ⟨v, rfl, by rw [hL (nm fr (2 ^ p0)) (by rw [hc]; rfl)]; exact t3, f12.trans f3⟩
theorem tellMost_c {N : Nat} {W : Nat → Nat} (hN : N ≤ 8) (hW : ∀ j, j < N → W j < 256) (hu : HeW N W u) : ∃ v, fX0_tellMost u = some (nI (hmN W N 0 255), v) ∧ TolC (hmT (hmL W N 0 255)) v ∧ Fm [(12, 3), (8, 1)] [42] [33] u v := by
  obtain ⟨u1, e1, f1⟩ := served_c (i := 0) (fr := 255) hN hW (by decide) (Nat.zero_le _) hu
  rw [Nat.sub_zero] at e1
  obtain ⟨e2, t2⟩ := clr_c u1
  have f12 : Fm [(12, 3), (8, 1)] [42] [33] u (sI u1 8 1 0) := (f1.mono rfl rfl rfl).sI rfl
  obtain ⟨v, e3, t3, f3⟩ := tell23 hN hW (nI (hmN W N 0 255)) N 0 255 FU [] (sI u1 8 1 0) (by omega) (show N < 4096 by omega) (by decide) ⟨(f12.i 12 2 rfl).trans hu.1, fun j hj => by rw [f12.a 41 rfl]; exact hu.2 j hj⟩ t2 rfl
  unfold fX0_tellMost
  rw [show fX11_allOf 8 u = some (nI 255, u) from all_c (k := 8) (by decide) u, oBs, show (0 : Int32) = nI 0 from rfl, e1, oBs, e2, oVs, e3]
  exact ⟨v, rfl, t3, f12.trans f3⟩
/-! the model gives -/
def bV (x : Nat) : Int32 := nI x - 1
theorem bv_le : ∀ a : Nat, a < 20 → ∀ x : Nat, x < 20 → (nI a ≤ bV x ↔ a < x) := by decide +kernel
theorem bv_lt : ∀ a : Nat, a < 20 → ∀ x : Nat, x < 20 → (bV x < nI a ↔ x ≤ a) := by decide +kernel
theorem bv_1 : ∀ a : Nat, a < 20 → bV (a + 1) = nI a := by decide +kernel
/-- which panes a claim of kinds wants -/
def wtN (D : DD) (x : Nat) : Nat := bN (fun p => decide (nm x (dh D p) = 0)) (dP D)
def GvM (D : DD) (N : Nat) (K : Nat → Nat) (u : US) : Prop := gI u 47 6 = nI (dP D) ∧ (∀ j, j < N → u.2.1 78 j = nI (K j)) ∧ ∀ p, p < dP D → u.2.1 52 p = nI (dh D p)
abbrev FG (u v : US) : Prop := Fm [(47, 51)] [79, 80] [] u v
theorem GvM.fg {N : Nat} {K : Nat → Nat} (h : GvM D N K u) (f : FG u v) : GvM D N K v := ⟨(f.i 47 6 rfl).trans h.1, fun j hj => by rw [f.a 78 rfl]; exact h.2.1 j hj, fun p hp => by rw [f.a 52 rfl]; exact h.2.2 p hp⟩
def GvP (i N many bm val : Nat) (L : List (Option Nat)) (u v : US) : Prop := (bm ≤ many + val → gI v 47 51 = bV (many + val + 1) ∧ (∀ j, j < i → v.2.1 80 j = u.2.1 79 j) ∧ ∀ j, j < N - i → v.2.1 80 (i + j) = hV (L.getD j none)) ∧ (¬ bm ≤ many + val → gI v 47 51 = bV bm ∧ ∀ j, j < N → v.2.1 80 j = u.2.1 80 j)
theorem hmB_ext {b n : Nat} {f : Nat → Option Nat} : ∀ k, (∀ p, n ≤ p → p < n + k → f p = none) → hmB b f (n + k) = hmB b f n
  | 0, _ => rfl
  | k + 1, h => by
    show hmB b f (n + k + 1) = _
    rw [hmB_n (h (n + k) (by omega) (by omega))]
    exact hmB_ext k (fun p a b => h p a (by omega))
theorem nm_z {a b : Nat} (ha : a < 256) : nI (nm a b) = 0 ↔ nm a b = 0 := nI0 (Nat.lt_of_le_of_lt (nm_le a b) (Nat.lt_trans ha (by decide)))
theorem wt_tb {x p : Nat} : (wtN D x).testBit p = (decide (p < dP D) && decide (nm x (dh D p) = 0)) := bN_tb _ _ _
/-- the best way from the choices so far -/
def gvC (W : Nat → Nat) (k i fr p : Nat) : Nat × Option Nat := hmB (hmN W k (i + 1) fr) (hmF W k i fr) p
def gvX (W : Nat → Nat) (k i fr p : Nat) : List (Option Nat) := (gvC W k i fr p).2 :: hmL W k (i + 1) (hmR fr (gvC W k i fr p).2)
theorem gives_m {N : Nat} {K : Nat → Nat} (hN : N ≤ 8) (hK : ∀ j, j < N → K j < 256) (hP : dP D ≤ 8) : ∀ (k i fr been many bm f : Nat) (u : US), i + k = N → k < f → fr < 256 → been < 256 → (∀ p, p < 8 → fr.testBit p = !been.testBit p) → many ≤ i → bm ≤ 9 → GvM D N K u → gI u 47 51 = bV bm → ∃ v, fX12_givesFrom f (nI i) (nI N) (nI been) (nI many) u = some v ∧ FG u v ∧ (∀ j, j < i → v.2.1 79 j = u.2.1 79 j) ∧ GvP i N many bm (hmN (fun j => wtN D (K j)) k i fr) (hmL (fun j => wtN D (K j)) k i fr) u v := by
  intro k
  induction k with
  | zero =>
    intro i fr been many bm f u hk hf hfr hbe hrel hmi hbm hu hb
    obtain ⟨f, rfl⟩ : ∃ f', f = f' + 1 := ⟨f - 1, (by omega)⟩
    have : i = N := by omega
    subst this
    show ∃ v, GX12_givesFrom (fX12_givesFrom f) (nI i) (nI i) (nI been) (nI many) u = some v ∧ _
    unfold GX12_givesFrom
    rw [if_pos rfl, hb]
    by_cases q : many < bm
    · rw [if_pos ((bv_le many (by omega) bm (by omega)).mpr q)]
      exact ⟨u, rfl, Fm.rf, fun _ _ => rfl, fun w => absurd (show bm ≤ many + 0 from w) (by omega), fun _ => ⟨hb, fun _ _ => rfl⟩⟩
    · rw [if_neg (fun w => q ((bv_le many (by omega) bm (by omega)).mp w)), nxs]
      refine lpE (fun g (z : Int32) w => fX12_givesFrom_23 (fX12_givesFrom f) (nI i) (nI i) (nI been) (nI many) g z w) i (fun j => nI j) (fun j w => (∀ x, x < j → w.2.1 80 x = u.2.1 79 x) ∧ gI w 47 51 = nI many ∧ w.2.1 79 = u.2.1 79 ∧ FG u w) (fun o => ∃ v, o = some v ∧ FG u v ∧ (∀ j, j < i → v.2.1 79 j = u.2.1 79 j) ∧ GvP i i many bm (hmN (fun j => wtN D (K j)) 0 i fr) (hmL (fun j => wtN D (K j)) 0 i fr) u v) ?_ ?_ (by omega) 0 rfl ⟨fun x hx => absurd hx (Nat.not_lt_zero x), rfl, rfl, Fm.rf.sI rfl⟩
      · rintro g j w hj ⟨h1, h2, h3, h4⟩
        left
        rw [fX12_givesFrom_23, if_neg (nI_ge hj (by omega)), gdi (show j < 8 by omega) (by omega), gdi (show j < 8 by omega) (by omega), nxs, nI_1]
        refine ⟨sA w 80 (nI j) (gA w 79 (nI j)), ⟨fun x hx => ?_, h2, h3, h4.sA rfl⟩, rfl⟩
        show upd (w.2.1 80) (nI j).toNatClampNeg (w.2.1 79 (nI j).toNatClampNeg) x = _
        rw [nI_clamp (by omega)]
        by_cases q2 : x = j
        · subst q2; rw [pk_us, h3]
        · rw [pk_un q2]; exact h1 x (by omega)
      · rintro g w ⟨h1, h2, h3, h4⟩
        rw [fX12_givesFrom_23, if_pos (nI_le (Nat.le_refl _) (by omega))]
        refine ⟨w, rfl, h4, fun j _ => by rw [h3], fun _ => ⟨?_, h1, fun j hj => ?_⟩, fun w => absurd (show bm ≤ many + 0 by omega) w⟩
        · rw [h2]; exact (bv_1 many (by omega)).symm
        · omega
  | succ k ih =>
    intro i fr been many bm f u hk hf hfr hbe hrel hmi hbm hu hb
    obtain ⟨f, rfl⟩ : ∃ f', f = f' + 1 := ⟨f - 1, (by omega)⟩
    have hle := hmN_le (W := fun j => wtN D (K j)) (k + 1) i fr
    have hKi := hK i (by omega)
    show ∃ v, GX12_givesFrom (fX12_givesFrom f) (nI i) (nI N) (nI been) (nI many) u = some v ∧ _
    unfold GX12_givesFrom
    rw [if_neg (nI_n (a := i) (b := N) (by omega) (by omega) (by omega)), hb, nI_add, pk_sub (show i ≤ many + N by omega), show many + N - i = many + (k + 1) by omega]
    by_cases q : bm ≤ many + (k + 1)
    · rw [if_pos ((bv_lt (many + (k + 1)) (by omega) bm (by omega)).mpr q), gdi (show i < 8 by omega) (by omega), nxs]
      obtain ⟨u1, hu1⟩ : ∃ u1, u1 = sA u 79 (nI i) (-1) := ⟨_, rfl⟩
      have f1 : FG u u1 := by rw [hu1]; exact Fm.rf.sA rfl
      have a1 : ∀ j, j < i + 1 → u1.2.1 79 j = if j = i then -1 else u.2.1 79 j := fun j hj => by
        rw [hu1]
        show upd (u.2.1 79) (nI i).toNatClampNeg (-1) j = _
        rw [nI_clamp (by omega)]
        by_cases q2 : j = i
        · subst q2; rw [pk_us, if_pos rfl]
        · rw [pk_un q2, if_neg q2]
      have e80 : u1.2.1 80 = u.2.1 80 := by rw [hu1]; rfl
      obtain ⟨u2, e2, f2, g2, p2⟩ := ih (i + 1) fr been many bm f u1 (by omega) (by omega) hfr hbe hrel (by omega) hbm (hu.fg f1) (by rw [hu1]; exact hb)
      rw [← hu1, show nI i + 1 = nI (i + 1) from nI_1 i, e2, oVs]
      refine lpE (fun g (z : Int32) w => fX12_givesFrom_85 (fX12_givesFrom f) (nI i) (nI N) (nI been) (nI many) g z w) (dP D) (fun p => nI p) (fun p w => FG u w ∧ (∀ j, j < i → w.2.1 79 j = u.2.1 79 j) ∧ GvP i N many bm (gvC (fun j => wtN D (K j)) k i fr p).1 (gvX (fun j => wtN D (K j)) k i fr p) u w) (fun o => ∃ v, o = some v ∧ FG u v ∧ (∀ j, j < i → v.2.1 79 j = u.2.1 79 j) ∧ GvP i N many bm (hmN (fun j => wtN D (K j)) (k + 1) i fr) (hmL (fun j => wtN D (K j)) (k + 1) i fr) u v) ?_ ?_ (by omega) 0 rfl ⟨f1.trans f2, fun j hj => ?_, ?_⟩
      · rintro g p w hp ⟨hfw, h79, hG1, hG2⟩
        left
        have hw := hu.fg hfw
        have hp8 : p < 8 := by omega
        have hfit : hfB (fun j => wtN D (K j)) i fr p = (decide (nm (K i) (dh D p) = 0) && !been.testBit p) := by
          show ((wtN D (K i)).testBit p && fr.testBit p) = _
          rw [wt_tb, decide_eq_true hp, Bool.true_and, hrel p hp8]
        rw [fX12_givesFrom_85, hw.1, if_neg (nI_ge hp (by omega)), has_m (by omega) (by omega), oBs]
        cases hbp : been.testBit p with
        | true =>
          rw [hbp, Bool.not_true, Bool.and_false] at hfit
          have ec : gvC (fun j => wtN D (K j)) k i fr (p + 1) = gvC (fun j => wtN D (K j)) k i fr p := hmB_n (hmF_n hfit)
          rw [if_neg (show ¬ bI true = 0 by decide), nI_1]
          refine ⟨w, ⟨hfw, h79, ?_⟩, rfl⟩
          unfold gvX
          rw [ec]; exact ⟨hG1, hG2⟩
        | false =>
          rw [hbp, Bool.not_false, Bool.and_true] at hfit
          rw [if_pos (show bI false = 0 from rfl), gdi (show i < 8 by omega) (by omega), gdi hp8 (by omega), show gA w 78 (nI i) = nI (K i) from by show w.2.1 78 (nI i).toNatClampNeg = _; rw [nI_clamp (by omega)]; exact hw.2.1 i (by omega), show gA w 52 (nI p) = nI (dh D p) from by show w.2.1 52 (nI p).toNatClampNeg = _; rw [nI_clamp (by omega)]; exact hw.2.2 p hp, and_n]
          by_cases hz : nm (K i) (dh D p) = 0
          · rw [decide_eq_true hz] at hfit
            rw [if_pos ((nm_z hKi).mpr hz), gdi (show i < 8 by omega) (by omega), nxs, or_b (by omega), nI_1, nI_1, nI_1]
            obtain ⟨w1, hw1⟩ : ∃ w1, w1 = sA w 79 (nI i) (nI p) := ⟨_, rfl⟩
            have g1 : FG u w1 := by rw [hw1]; exact hfw.sA rfl
            have b1 : ∀ j, j < i + 1 → w1.2.1 79 j = if j = i then nI p else u.2.1 79 j := fun j hj => by
              rw [hw1]
              show upd (w.2.1 79) (nI i).toNatClampNeg (nI p) j = _
              rw [nI_clamp (by omega)]
              by_cases q2 : j = i
              · subst q2; rw [pk_us, if_pos rfl]
              · rw [pk_un q2, if_neg q2]; exact h79 j (by omega)
            have e80' : w1.2.1 80 = w.2.1 80 := by rw [hw1]; rfl
            have e51 : gI w1 47 51 = gI w 47 51 := by rw [hw1]; rfl
            have hbe2 : been ||| 2 ^ p < 256 := Nat.or_lt_two_pow (n := 8) hbe (Nat.pow_lt_pow_right (by decide) hp8)
            have hrel2 : ∀ p', p' < 8 → (nm fr (2 ^ p)).testBit p' = !(been ||| 2 ^ p).testBit p' := fun p' hp' => by
              rw [nm_tb (Nat.lt_trans hfr (by decide)), Nat.testBit_or, hrel p' hp', Bool.not_or]
            have hx := hmN_le (W := fun j => wtN D (K j)) k (i + 1) (nm fr (2 ^ p))
            have hcv : (gvC (fun j => wtN D (K j)) k i fr p).1 ≤ k + 1 := by
              have h8 := hmN_le (W := fun j => wtN D (K j)) (k + 1) i fr
              obtain ⟨d1, d2⟩ := hmB_ge (b := hmN (fun j => wtN D (K j)) k (i + 1) fr) (f := hmF (fun j => wtN D (K j)) k i fr) 8
              cases hc : (gvC (fun j => wtN D (K j)) k i fr p).2 with
              | none =>
                have : (gvC (fun j => wtN D (K j)) k i fr p).1 = _ := hmB_no p hc
                have h9 : (hmB (hmN (fun j => wtN D (K j)) k (i + 1) fr) (hmF (fun j => wtN D (K j)) k i fr) 8).1 ≤ k + 1 := h8
                omega
              | some p1 =>
                obtain ⟨c1, c2, _⟩ := hmB_so p hc
                have h9 : (hmB (hmN (fun j => wtN D (K j)) k (i + 1) fr) (hmF (fun j => wtN D (K j)) k i fr) 8).1 ≤ k + 1 := h8
                have h10 := d2 p1 (by omega) _ c2
                exact Nat.le_trans h10 h9
            have ey : gvC (fun j => wtN D (K j)) k i fr (p + 1) = if (gvC (fun j => wtN D (K j)) k i fr p).1 < hmN (fun j => wtN D (K j)) k (i + 1) (nm fr (2 ^ p)) + 1 then (hmN (fun j => wtN D (K j)) k (i + 1) (nm fr (2 ^ p)) + 1, some p) else gvC (fun j => wtN D (K j)) k i fr p := hmB_y (hmF_y hfit)
            rw [← hw1]
            by_cases hI : bm ≤ many + (gvC (fun j => wtN D (K j)) k i fr p).1
            · obtain ⟨i1, i2, i3⟩ := hG1 hI
              obtain ⟨w2, e3, f3, g3, p3, p4⟩ := ih (i + 1) (nm fr (2 ^ p)) (been ||| 2 ^ p) (many + 1) (many + (gvC (fun j => wtN D (K j)) k i fr p).1 + 1) f w1 (by omega) (by omega) (nm_256 hfr) hbe2 hrel2 (by omega) (by omega) (hu.fg g1) (e51.trans i1)
              rw [e3, oVs]
              refine ⟨w2, ⟨g1.trans f3, fun j hj => ?_, ?_⟩, rfl⟩
              · rw [g3 j (by omega), b1 j (by omega), if_neg (by omega)]
              · by_cases hL : (gvC (fun j => wtN D (K j)) k i fr p).1 < hmN (fun j => wtN D (K j)) k (i + 1) (nm fr (2 ^ p)) + 1
                · obtain ⟨j1, j2, j3⟩ := p3 (by omega)
                  unfold gvX
                  rw [ey, if_pos hL]
                  refine ⟨fun _ => ⟨?_, fun j hj => ?_, fun j hj => ?_⟩, fun w => absurd (show bm ≤ many + (hmN (fun j => wtN D (K j)) k (i + 1) (nm fr (2 ^ p)) + 1) by omega) w⟩
                  · rw [j1]; congr 1; show many + 1 + _ + 1 = many + (_ + 1) + 1; omega
                  · rw [j2 j (by omega), b1 j (by omega), if_neg (by omega)]
                  · cases j with
                    | zero => rw [Nat.add_zero, j2 i (by omega), b1 i (by omega), if_pos rfl]; rfl
                    | succ j => rw [show i + (j + 1) = i + 1 + j by omega, j3 j (by omega)]; rfl
                · obtain ⟨j1, j2⟩ := p4 (by omega)
                  unfold gvX
                  rw [ey, if_neg hL]
                  refine ⟨fun _ => ⟨j1, fun j hj => ?_, fun j hj => ?_⟩, fun w => absurd hI w⟩
                  · rw [j2 j (by omega), e80']; exact i2 j hj
                  · rw [j2 (i + j) (by omega), e80']; exact i3 j hj
            · obtain ⟨i1, i2⟩ := hG2 hI
              obtain ⟨w2, e3, f3, g3, p3, p4⟩ := ih (i + 1) (nm fr (2 ^ p)) (been ||| 2 ^ p) (many + 1) bm f w1 (by omega) (by omega) (nm_256 hfr) hbe2 hrel2 (by omega) hbm (hu.fg g1) (e51.trans i1)
              rw [e3, oVs]
              refine ⟨w2, ⟨g1.trans f3, fun j hj => ?_, ?_⟩, rfl⟩
              · rw [g3 j (by omega), b1 j (by omega), if_neg (by omega)]
              · by_cases hL : bm ≤ many + (hmN (fun j => wtN D (K j)) k (i + 1) (nm fr (2 ^ p)) + 1)
                · obtain ⟨j1, j2, j3⟩ := p3 (by omega)
                  unfold gvX
                  rw [ey, if_pos (by omega)]
                  refine ⟨fun _ => ⟨?_, fun j hj => ?_, fun j hj => ?_⟩, fun w => absurd hL w⟩
                  · rw [j1]; congr 1; show many + 1 + _ + 1 = many + (_ + 1) + 1; omega
                  · rw [j2 j (by omega), b1 j (by omega), if_neg (by omega)]
                  · cases j with
                    | zero => rw [Nat.add_zero, j2 i (by omega), b1 i (by omega), if_pos rfl]; rfl
                    | succ j => rw [show i + (j + 1) = i + 1 + j by omega, j3 j (by omega)]; rfl
                · obtain ⟨j1, j2⟩ := p4 (by omega)
                  have hno : ¬ bm ≤ many + (gvC (fun j => wtN D (K j)) k i fr (p + 1)).1 := by
                    rw [ey]
                    by_cases hL2 : (gvC (fun j => wtN D (K j)) k i fr p).1 < hmN (fun j => wtN D (K j)) k (i + 1) (nm fr (2 ^ p)) + 1
                    · rw [if_pos hL2]; exact hL
                    · rw [if_neg hL2]; exact hI
                  refine ⟨fun w => absurd w hno, fun _ => ⟨j1, fun j hj => ?_⟩⟩
                  rw [j2 j hj, e80']; exact i2 j hj
          · rw [decide_eq_false hz] at hfit
            have ec : gvC (fun j => wtN D (K j)) k i fr (p + 1) = gvC (fun j => wtN D (K j)) k i fr p := hmB_n (hmF_n hfit)
            rw [if_neg (fun w => hz ((nm_z hKi).mp w)), nI_1]
            refine ⟨w, ⟨hfw, h79, ?_⟩, rfl⟩
            unfold gvX
            rw [ec]; exact ⟨hG1, hG2⟩
      · rintro g w ⟨hfw, h79, hG⟩
        have hw := hu.fg hfw
        rw [fX12_givesFrom_85, hw.1, if_pos (nI_le (Nat.le_refl _) (by omega))]
        refine ⟨w, rfl, hfw, h79, ?_⟩
        have ec : hmC (fun j => wtN D (K j)) k i fr = gvC (fun j => wtN D (K j)) k i fr (dP D) := by
          have := hmB_ext (b := hmN (fun j => wtN D (K j)) k (i + 1) fr) (f := hmF (fun j => wtN D (K j)) k i fr) (n := dP D) (8 - dP D) (fun p a b => hmF_n (by
            show ((wtN D (K i)).testBit p && fr.testBit p) = false
            rw [wt_tb, decide_eq_false (by omega), Bool.false_and, Bool.false_and]))
          rw [show dP D + (8 - dP D) = 8 by omega] at this
          exact this
        have e1 : hmN (fun j => wtN D (K j)) (k + 1) i fr = (gvC (fun j => wtN D (K j)) k i fr (dP D)).1 := by rw [hmN_s, ec]
        have e2 : hmL (fun j => wtN D (K j)) (k + 1) i fr = gvX (fun j => wtN D (K j)) k i fr (dP D) := by
          show (hmC (fun j => wtN D (K j)) k i fr).2 :: hmL _ k (i + 1) (hmR fr (hmC (fun j => wtN D (K j)) k i fr).2) = _
          rw [ec]; rfl
        rw [e1, e2]; exact hG
      · rw [g2 j (by omega), a1 j (by omega), if_neg (by omega)]
      · obtain ⟨p3, p4⟩ := p2
        refine ⟨fun hI => ?_, fun hI => ?_⟩
        · obtain ⟨j1, j2, j3⟩ := p3 hI
          refine ⟨j1, fun j hj => ?_, fun j hj => ?_⟩
          · rw [j2 j (by omega), a1 j (by omega), if_neg (by omega)]
          · cases j with
            | zero => rw [Nat.add_zero, j2 i (by omega), a1 i (by omega), if_pos rfl]; rfl
            | succ j => rw [show i + (j + 1) = i + 1 + j by omega, j3 j (by omega)]; rfl
        · obtain ⟨j1, j2⟩ := p4 hI
          exact ⟨j1, fun j hj => by rw [j2 j hj, e80]⟩
    · rw [if_neg (fun w => q ((bv_lt (many + (k + 1)) (by omega) bm (by omega)).mp w))]
      exact ⟨u, rfl, Fm.rf, fun _ _ => rfl, fun w => absurd w (by omega), fun _ => ⟨hb, fun _ _ => rfl⟩⟩
/-! the text of claims -/
def clR (n : Nat) (c : Nat → Nat) : Nat → Nat → Nat × Nat × Bool
  | 0, q => (0, q, false)
  | k + 1, q => if (klP n 80 c q 8).2 = 0 then (0, (klP n 80 c q 8).1, false) else if htB n 80 c (klP n 80 c q 8).1 59 then ((clR n c k ((klP n 80 c q 8).1 + 1)).1 + 1, (clR n c k ((klP n 80 c q 8).1 + 1)).2) else (1, (klP n 80 c q 8).1, !decide ((klP n 80 c q 8).1 < min n 80))
/-- the kinds of a line -/
def clK (n : Nat) (c : Nat → Nat) : Nat → Nat → Nat
  | 0, q => (klP n 80 c q 8).2
  | j + 1, q => clK n c j ((klP n 80 c q 8).1 + 1)
theorem clK_lt : ∀ j q, clK n c j q < 256
  | 0, q => kl_lt 8
  | j + 1, q => clK_lt j _
theorem clR_k : ∀ k q, (clR n c k q).1 ≤ k
  | 0, _ => Nat.le_refl _
  | k + 1, q => by
    rw [clR]
    by_cases h1 : (klP n 80 c q 8).2 = 0
    · rw [if_pos h1]; exact Nat.zero_le _
    · rw [if_neg h1]
      by_cases h2 : htB n 80 c (klP n 80 c q 8).1 59 = true
      · rw [if_pos h2]; exact Nat.succ_le_succ (clR_k k _)
      · rw [if_neg h2]; exact Nat.succ_le_succ (Nat.zero_le _)
theorem clR_e : ∀ k q, (clR n c k q).2.2 = true → ¬ (clR n c k q).2.1 < min n 80
  | 0, _, h => by cases h
  | k + 1, q, h => by
    rw [clR] at h ⊢
    by_cases h1 : (klP n 80 c q 8).2 = 0
    · rw [if_pos h1] at h; cases h
    · rw [if_neg h1] at h ⊢
      by_cases h2 : htB n 80 c (klP n 80 c q 8).1 59 = true
      · rw [if_pos h2] at h ⊢; exact clR_e k _ h
      · rw [if_neg h2] at h ⊢
        have h3 : (!decide ((klP n 80 c q 8).1 < min n 80)) = true := h
        intro w
        have w2 : (klP n 80 c q 8).1 < min n 80 := w
        rw [decide_eq_true w2] at h3; cases h3
theorem hides_c {x : Nat} (hP : dP D ≤ 8) (hx : x < 256) (h3 : gI u 3 3 = nI (dP D)) (h19 : ∀ p, p < dP D → u.2.1 19 p = nI (dh D p)) : fX8_panesHiding (nI x) u = some (nI (wtN D x), u) := by
  unfold fX8_panesHiding
  refine lpS (fun f k => fX8_panesHiding_4 (nI x) f (nI (bN (fun p => decide (nm x (dh D p) = 0)) k)) (nI k) u) (dP D) _ (fun g k hk => ?_) (fun g => ?_) FU 0 (FUg (by omega)) (Nat.zero_le _)
  · show fX8_panesHiding_4 (nI x) (g + 1) (nI (bN (fun p => decide (nm x (dh D p) = 0)) k)) (nI k) u = _
    rw [fX8_panesHiding_4, h3, if_neg (nI_ge hk (by omega)), gdi (show k < 8 by omega) (by omega), show gA u 19 (nI k) = nI (dh D k) from by show u.2.1 19 (nI k).toNatClampNeg = _; rw [nI_clamp (by omega)]; exact h19 k hk, and_n, nI_1]
    by_cases q : nm x (dh D k) = 0
    · rw [if_pos ((nm_z hx).mpr q), or_b (by omega), bN_y (p := fun p => decide (nm x (dh D p) = 0)) (decide_eq_true q)]
    · rw [if_neg (fun w => q ((nm_z hx).mp w)), bN_n (p := fun p => decide (nm x (dh D p) = 0)) (decide_eq_false q)]
  · show fX8_panesHiding_4 (nI x) (g + 1) (nI (bN (fun p => decide (nm x (dh D p) = 0)) (dP D))) (nI (dP D)) u = _
    rw [fX8_panesHiding_4, h3, if_pos (nI_le (Nat.le_refl _) (by omega))]; rfl
abbrev FLc (u v : US) : Prop := Fm [(2, 2), (2, 3), (12, 2)] [41] [] u v
theorem claims_c (ht : Tok n 80 c) (hP : dP D ≤ 8) : ∀ (k i f q : Nat) (w : US), i + k = 8 → k + 1 < f → Rc n 80 c q true w → gI w 3 3 = nI (dP D) → (∀ p, p < dP D → w.2.1 19 p = nI (dh D p)) → gI w 12 2 = nI i → ∃ v, fX11_readClaims_27 f 1 (nI i) w = some (anV n (clR n c k q).2.1 (clR n c k q).2.2 0, v) ∧ ((clR n c k q).2.2 = true → gI v 12 2 = nI (i + (clR n c k q).1) ∧ (∀ j, j < i → v.2.1 41 j = w.2.1 41 j) ∧ ∀ j, j < (clR n c k q).1 → v.2.1 41 (i + j) = nI (wtN D (clK n c j q))) ∧ FLc w v := by
  have e91 : ∀ (b : Bool) (q : Nat) (ok : Bool) (w : US), Rc n 80 c q ok w → ∃ v, fX11_readClaims_91 (bI b) w = some (anV n q (ok && !b) 0, v) ∧ Fc w v := fun b q ok w hr => by
    obtain ⟨v1, e1, r1, f1⟩ := dem_c ht.1 hr (!b)
    obtain ⟨v2, e2, f2⟩ := answer_c ht.1 r1 0
    refine ⟨v2, ?_, f1.trans f2⟩
    unfold fX11_readClaims_91 fX11_readClaims_104
    cases b with
    | true => rw [if_neg (show ¬ bI true = 0 by decide), show (0 : Int32) = bI (!true) from rfl, e1, oBs, show bI (!true) = (0 : Int32) from rfl, e2, oBs]
    | false => rw [if_pos (show bI false = 0 from rfl), show (1 : Int32) = bI (!false) from rfl, e1, oBs, e2, oBs]
  intro k
  induction k with
  | zero =>
    intro i f q w hi hf hr h3 h19 h12
    obtain ⟨f, rfl⟩ : ∃ f', f = f' + 1 := ⟨f - 1, (by omega)⟩
    have : i = 8 := by omega
    subst this
    obtain ⟨v, e1, f1⟩ := e91 true q true w hr
    rw [fX11_readClaims_27, if_neg (show ¬ (1 : Int32) = 0 by decide), if_pos (show (8 : Int32) ≤ nI 8 by decide), show (1 : Int32) = bI true from rfl, e1]
    exact ⟨v, rfl, fun w => (by cases w), f1.mono rfl rfl rfl⟩
  | succ k ih =>
    intro i f q w hi hf hr h3 h19 h12
    obtain ⟨f, rfl⟩ : ∃ f', f = f' + 1 := ⟨f - 1, (by omega)⟩
    have hi8 : i < 8 := by omega
    obtain ⟨v1, e1, r1, f1⟩ := kinds_c ht hr
    rw [if_pos rfl] at e1 r1
    have hx : (klP n 80 c q 8).2 < 256 := kl_lt 8
    rw [fX11_readClaims_27, if_neg (show ¬ (1 : Int32) = 0 by decide), if_neg (show ¬ (8 : Int32) ≤ nI i from nI_ge (b := 8) hi8 (by omega)), e1, oBs, clR]
    -- the line is added
    have line : ∀ (b ok : Bool) (K : Int32 → Int32 → US → Option (Int32 × US)), ok = b → ∃ v3, fX11_readClaims_58 K (nI i) (nI (klP n 80 c q 8).2) (bI b) v1 = K (bI (ok && htB n 80 c (klP n 80 c q 8).1 59)) (nI (i + 1)) v3 ∧ Rc n 80 c (if (ok && htB n 80 c (klP n 80 c q 8).1 59) = true then (klP n 80 c q 8).1 + 1 else (klP n 80 c q 8).1) (ok && (htB n 80 c (klP n 80 c q 8).1 59 || !decide ((klP n 80 c q 8).1 < min n 80))) v3 ∧ gI v3 12 2 = nI (i + 1) ∧ (∀ j, j < i → v3.2.1 41 j = w.2.1 41 j) ∧ v3.2.1 41 i = nI (wtN D (klP n 80 c q 8).2) ∧ FLc w v3 := by
      intro b ok K hb
      subst hb
      obtain ⟨v2, e2, r2, f2⟩ := dem_c ht.1 r1 ok
      rw [Bool.true_and] at e2 r2
      have f12 : Fc w v2 := f1.trans f2
      have eh := hides_c (u := v2) hP hx ((f12.i 3 3 rfl).trans h3) (fun p hp => by rw [f12.a 19 rfl]; exact h19 p hp)
      have e12 : gI v2 12 2 = nI i := (f12.i 12 2 rfl).trans h12
      obtain ⟨v3, hv3⟩ : ∃ v3, v3 = sI (sA v2 41 (nI i) (nI (wtN D (klP n 80 c q 8).2))) 12 2 (nI (i + 1)) := ⟨_, rfl⟩
      have ea : fX0_add (nI (wtN D (klP n 80 c q 8).2)) v2 = some v3 := by
        unfold fX0_add
        rw [e12, if_neg (show ¬ (8 : Int32) ≤ nI i from nI_ge (b := 8) hi8 (by omega)), gdi hi8 (by omega), nxs, show gI (sA v2 41 (nI i) (nI (wtN D (klP n 80 c q 8).2))) 12 2 = nI i from e12, nI_1, nxs, hv3]
      have f3 : Fm [(12, 2)] [41] [] v2 v3 := by rw [hv3]; exact (Fm.rf.sA rfl).sI rfl
      obtain ⟨v4, e4, r4, f4⟩ := more_c ht (r2.fm f3 rfl rfl)
      refine ⟨v4, ?_, r4, ?_, fun j hj => ?_, ?_, ((f12.mono rfl rfl rfl).trans (f3.mono rfl rfl rfl)).trans (f4.mono rfl rfl rfl)⟩
      · unfold fX11_readClaims_58
        rw [e2, oBs, eh, oBs, ea, oVs, e4, oBs, nI_1]
      · rw [show gI v4 12 2 = gI v3 12 2 from f4.i 12 2 rfl, hv3]; rfl
      · rw [f4.a 41 rfl, hv3]
        show upd (v2.2.1 41) (nI i).toNatClampNeg _ j = _
        rw [nI_clamp (by omega), pk_un (by omega), f12.a 41 rfl]
      · rw [f4.a 41 rfl, hv3]
        show upd (v2.2.1 41) (nI i).toNatClampNeg _ i = _
        rw [nI_clamp (by omega), pk_us]
    by_cases h0 : (klP n 80 c q 8).2 = 0
    · obtain ⟨v3, e3, r3, g3, l3, n3, f3⟩ := line false false (fX11_readClaims_27 f) rfl
      rw [Bool.false_and] at e3 r3
      rw [Bool.false_and, if_neg (by decide)] at r3
      rw [if_pos (by rw [h0]; rfl), if_pos h0, show (0 : Int32) = bI false from rfl, e3]
      obtain ⟨f, rfl⟩ : ∃ f', f = f' + 1 := ⟨f - 1, (by omega)⟩
      obtain ⟨v4, e4, f4⟩ := e91 false _ _ v3 r3
      rw [fX11_readClaims_27, if_pos (show bI false = 0 from rfl), e4]
      exact ⟨v4, rfl, fun w => (by cases w), f3.trans (f4.mono rfl rfl rfl)⟩
    · obtain ⟨v3, e3, r3, g3, l3, n3, f3⟩ := line true true (fX11_readClaims_27 f) rfl
      rw [Bool.true_and] at e3 r3
      rw [Bool.true_and] at r3
      rw [if_neg (fun w => h0 ((nI0 (by omega)).mp w)), if_neg h0, show (1 : Int32) = bI true from rfl, e3]
      cases h59 : htB n 80 c (klP n 80 c q 8).1 59 with
      | true =>
        rw [h59, if_pos rfl, Bool.true_or] at r3
        obtain ⟨v4, e4, s4, f4⟩ := ih (i + 1) f _ v3 (by omega) (by omega) r3 ((f3.i 3 3 rfl).trans h3) (fun p hp => by rw [f3.a 19 rfl]; exact h19 p hp) g3
        rw [show bI true = (1 : Int32) from rfl, e4, if_pos rfl]
        refine ⟨v4, rfl, fun w => ?_, f3.trans f4⟩
        obtain ⟨s1, s2, s3⟩ := s4 w
        refine ⟨?_, fun j hj => ?_, fun j hj => ?_⟩
        · rw [s1]; congr 1; show i + 1 + _ = i + (_ + 1); omega
        · rw [s2 j (by omega)]; exact l3 j hj
        · cases j with
          | zero => rw [Nat.add_zero, s2 i (by omega)]; exact n3
          | succ j =>
            rw [show i + (j + 1) = i + 1 + j by omega]
            exact s3 j (Nat.lt_of_succ_lt_succ hj)
      | false =>
        rw [h59, if_neg (by decide), Bool.false_or] at r3
        obtain ⟨f, rfl⟩ : ∃ f', f = f' + 1 := ⟨f - 1, (by omega)⟩
        obtain ⟨v4, e4, f4⟩ := e91 false _ _ v3 r3
        rw [fX11_readClaims_27, if_pos (show bI false = 0 from rfl), e4, if_neg (by decide), show (!false) = true from rfl, Bool.and_true]
        refine ⟨v4, rfl, fun _ => ⟨(f4.i 12 2 rfl).trans g3, fun j hj => by rw [f4.a 41 rfl]; exact l3 j hj, fun j hj => ?_⟩, f3.trans (f4.mono rfl rfl rfl)⟩
        have : j = 0 := by have h : j < 1 := hj; omega
        subst this
        rw [Nat.add_zero, f4.a 41 rfl]; exact n3
/-- what the model does with the claims it has read -/
def clG (x : Int32) (u : US) : Option (Int32 × US) := nx (sI u 47 51 (-1)) fun u1 => oV (fX12_givesFrom 12 0 x 0 0 u1) fun u2 => nx (sI u2 47 1 0) fun u3 => fX12_claims_142 FU x 0 u3
theorem claims_m (ht : Tok n 80 c) : ∀ (k i f q : Nat) (w : US), i + k = 8 → k + 1 < f → Rm n 80 c q w → ∃ v, fX12_claims_27 f (nI i) 1 1 w = (if (clR n c k q).2.2 then clG (nI (i + (clR n c k q).1)) v else some (-1 - nI (clR n c k q).2.1, v)) ∧ Rm n 80 c (clR n c k q).2.1 v ∧ ((clR n c k q).2.2 = true → (∀ j, j < i → v.2.1 78 j = w.2.1 78 j) ∧ ∀ j, j < (clR n c k q).1 → v.2.1 78 (i + j) = nI (clK n c j q)) ∧ Fm [(47, 19)] [78] [] w v := by
  intro k
  induction k with
  | zero =>
    intro i f q w hi hf hr
    obtain ⟨f, rfl⟩ : ∃ f', f = f' + 1 + 1 := ⟨f - 2, (by omega)⟩
    have : i = 8 := by omega
    subst this
    rw [fX12_claims_27, if_neg (show ¬ (1 : Int32) = 0 by decide), if_pos (show (8 : Int32) ≤ nI 8 by decide)]
    unfold fX12_claims_43 fX12_claims_76
    rw [if_pos rfl, if_pos rfl, fX12_claims_27, if_pos rfl, if_pos rfl, show gI w 47 19 = nI q from hr.2.1]
    exact ⟨w, rfl, hr, fun w => (by cases w), Fm.rf⟩
  | succ k ih =>
    intro i f q w hi hf hr
    obtain ⟨f, rfl⟩ : ∃ f', f = f' + 1 + 1 := ⟨f - 2, (by omega)⟩
    have hi8 : i < 8 := by omega
    obtain ⟨v1, e1, r1, f1⟩ := letters_m ht hr
    have hx : (klP n 80 c q 8).2 < 256 := kl_lt 8
    have hn := ht.1
    rw [fX12_claims_27, if_neg (show ¬ (1 : Int32) = 0 by decide), if_neg (show ¬ (8 : Int32) ≤ nI i from nI_ge (b := 8) hi8 (by omega))]
    unfold fX12_claims_43
    obtain ⟨v2, hv2⟩ : ∃ v2, v2 = sA v1 78 (nI i) (nI (klP n 80 c q 8).2) := ⟨_, rfl⟩
    have r2 : Rm n 80 c (klP n 80 c q 8).1 v2 := by rw [hv2]; exact r1.fm (a := []) (b := [78]) (d := []) (Fm.rf.sA rfl) rfl rfl
    have f2 : Fm [(47, 19)] [78] [] w v2 := by rw [hv2]; exact (f1.mono rfl rfl rfl).sA rfl
    have l2 : (∀ j, j < i → v2.2.1 78 j = w.2.1 78 j) ∧ v2.2.1 78 i = nI (klP n 80 c q 8).2 := by
      rw [hv2]
      refine ⟨fun j hj => ?_, ?_⟩
      · show upd (v1.2.1 78) (nI i).toNatClampNeg _ j = _
        rw [nI_clamp (by omega), pk_un (by omega), f1.a 78 rfl]
      · show upd (v1.2.1 78) (nI i).toNatClampNeg _ i = _
        rw [nI_clamp (by omega), pk_us]
    rw [if_neg (show ¬ (1 : Int32) = 0 by decide), e1, oBs, gdi hi8 (by omega), nxs, ← hv2, gdi hi8 (by omega), show gA v2 78 (nI i) = nI (klP n 80 c q 8).2 from by rw [hv2]; exact gA_me _ 78 _ _, clR]
    unfold fX12_claims_72 fX12_claims_76
    by_cases h0 : (klP n 80 c q 8).2 = 0
    · rw [if_pos (by rw [h0]; rfl), if_pos h0, if_pos rfl, fX12_claims_27, if_pos rfl, if_pos rfl, show gI v2 47 19 = nI (klP n 80 c q 8).1 from r2.2.1]
      exact ⟨v2, rfl, r2, fun w => (by cases w), f2⟩
    · obtain ⟨v3, e3, r3, f3⟩ := tsign_m ht r2 (s := 59) (by decide)
      rw [if_neg (fun w => h0 ((nI0 (by omega)).mp w)), if_neg h0, if_neg (show ¬ (1 : Int32) = 0 by decide), show (59 : Int32) = nI 59 from rfl, e3, oBs, nI_1]
      cases h59 : htB n 80 c (klP n 80 c q 8).1 59 with
      | true =>
        rw [h59, if_pos rfl] at r3
        obtain ⟨v4, e4, r4, s4, f4⟩ := ih (i + 1) (f + 1) _ v3 (by omega) (by omega) r3
        rw [if_neg (show ¬ bI true = 0 by decide), e4, if_pos rfl, show i + 1 + (clR n c k ((klP n 80 c q 8).1 + 1)).1 = i + ((clR n c k ((klP n 80 c q 8).1 + 1)).1 + 1) by omega]
        refine ⟨v4, rfl, r4, fun w => ?_, (f2.trans (f3.mono rfl rfl rfl)).trans f4⟩
        obtain ⟨s1, s2⟩ := s4 w
        refine ⟨fun j hj => ?_, fun j hj => ?_⟩
        · rw [s1 j (by omega), f3.a 78 rfl]; exact l2.1 j hj
        · cases j with
          | zero => rw [Nat.add_zero, s1 i (by omega), f3.a 78 rfl]; exact l2.2
          | succ j =>
            rw [show i + (j + 1) = i + 1 + j by omega]
            exact s2 j (Nat.lt_of_succ_lt_succ hj)
      | false =>
        rw [h59, if_neg (by decide)] at r3
        have hle := r3.2.2
        rw [if_pos (show bI false = 0 from rfl), fX12_claims_27, if_pos rfl, if_neg (show ¬ (1 : Int32) = 0 by decide), show gI v3 47 20 = nI (min n 80) from r3.1.2, show gI v3 47 19 = nI (klP n 80 c q 8).1 from r3.2.1, if_neg (show ¬ false = true by decide)]
        have f23 : Fm [(47, 19)] [78] [] w v3 := f2.trans (f3.mono rfl rfl rfl)
        by_cases hq : (klP n 80 c q 8).1 < min n 80
        · rw [if_neg (nI_ge hq (by omega)), decide_eq_true hq, show (!true) = false from rfl]
          exact ⟨v3, rfl, r3, fun w => (by cases w), f23⟩
        · rw [if_pos (nI_le (by omega) (by omega)), decide_eq_false hq, show (!false) = true from rfl]
          refine ⟨v3, rfl, r3, fun _ => ⟨fun j hj => by rw [f3.a 78 rfl]; exact l2.1 j hj, fun j hj => ?_⟩, f23⟩
          have : j = 0 := by have h : j < 1 := hj; omega
          subst this
          rw [Nat.add_zero, f3.a 78 rfl]; exact l2.2
theorem tk_s : ∀ (l : List Int64) (j : Nat), j < l.length → l.take (j + 1) = l.take j ++ [l.getD j 0]
  | [], j, h => absurd h (Nat.not_lt_zero j)
  | x :: l, 0, _ => rfl
  | x :: l, j + 1, h => congrArg (x :: ·) (tk_s l j (Nat.lt_of_succ_lt_succ h))
theorem hmL_len {W : Nat → Nat} : ∀ k i fr, (hmL W k i fr).length = k
  | 0, _, _ => rfl
  | k + 1, i, fr => congrArg (· + 1) (hmL_len k (i + 1) _)
theorem hmT_g {L : List (Option Nat)} : ∀ {j : Nat}, j < L.length → (hmT L).getD j 0 = (hV (L.getD j none)).toInt64 := by
  intro j hj
  unfold hmT
  simp [List.getD, hj]
theorem c142 {N : Nat} (hN : N ≤ 8) {L : List (Option Nat)} (hL : L.length = N) (h80 : ∀ j, j < N → u.2.1 80 j = hV (L.getD j none)) (h0 : TolM [] u) : ∃ v, fX12_claims_142 FU (nI N) 0 u = some (gI u 47 51, v) ∧ TolM (hmT L) v ∧ Tm u v := by
  have hlen : (hmT L).length = N := by unfold hmT; rw [List.length_map]; exact hL
  refine lpE (fun g (z : Int32) w => fX12_claims_142 g (nI N) z w) N (fun j => nI j) (fun j w => TolM ((hmT L).take j) w ∧ Tm u w) (fun o => ∃ v, o = some (gI u 47 51, v) ∧ TolM (hmT L) v ∧ Tm u v) ?_ ?_ (by omega) 0 rfl ⟨h0, Fm.rf⟩
  · rintro g j w hj ⟨h1, h2⟩
    left
    have hl : ((hmT L).take j).length = j := by rw [List.length_take]; omega
    obtain ⟨v, e1, t1, f1⟩ := en_m h1 (by omega) (hV (L.getD j none)).toInt64
    refine ⟨v, ⟨?_, h2.trans f1⟩, ?_⟩
    · rw [tk_s _ _ (by omega), hmT_g (by omega)]; exact t1
    · rw [fX12_claims_142, if_neg (nI_ge hj (by omega)), gdi (show j < 8 by omega) (by omega), show gA w 80 (nI j) = hV (L.getD j none) from by show w.2.1 80 (nI j).toNatClampNeg = _; rw [nI_clamp (by omega), h2.a 80 rfl]; exact h80 j hj, e1, oVs, nI_1]
  · rintro g w ⟨h1, h2⟩
    rw [fX12_claims_142, if_pos (nI_le (Nat.le_refl _) (by omega)), show gI w 47 51 = gI u 47 51 from h2.i 47 51 rfl]
    rw [show N = (hmT L).length from hlen.symm, List.take_length] at h1
    exact ⟨w, rfl, h1, h2⟩
def spL (n : Nat) (c : Nat → Nat) : Nat × Nat × Bool := if n = 0 then (0, 0, true) else clR n c 8 0
theorem st_35 : St_35 Inv := by
  intro kk u hkk hI
  obtain ⟨n, c, hn, hc, hxc, hxm⟩ := tx_of hI
  have ht : Tok n 80 c := ⟨hn, by decide, hc⟩
  have hmin : min n 80 = n := Nat.min_eq_left hn
  obtain ⟨D, m, hW, -⟩ := Inv_to hI
  have hTo := Inv_told hI
  have hRu := Inv_irul hI
  have hP : dP D ≤ 8 := hW.1.1.2.2.2.2.2.1
  have hC3 : u.1 3 3 = nI (dP D) := hW.2.1.1.2.2.2.1
  have hC19 : RowN (dP D) (u.2.1 19) (dh D) := hW.2.1.2.2.2.2.1
  have hM6 : u.1 47 6 = nI (dP D) := hW.2.2.1.1.2.2.2.1
  have hM52 : RowN (dP D) (u.2.1 52) (dh D) := hW.2.2.1.2.2.2.2.1
  have hN8 : (spL n c).1 ≤ 8 := by
    unfold spL
    by_cases h0 : n = 0
    · rw [if_pos h0]; exact Nat.zero_le _
    · rw [if_neg h0]; exact clR_k 8 0
  have hend : (spL n c).2.2 = true → (spL n c).2.1 ≤ n → (spL n c).2.1 = n := by
    unfold spL
    by_cases h0 : n = 0
    · rw [if_pos h0]; exact fun _ _ => h0.symm
    · rw [if_neg h0]
      intro h1 h2
      have := clR_e 8 0 h1
      omega
  have hwt : ∀ j, j < (spL n c).1 → wtN D (clK n c j 0) < 256 := fun j _ => Nat.lt_of_lt_of_le (bN_lt _ _) (two8 hP)
  -- the class reads
  have rc : ∃ v, (oV (fX0_clear u) fun u1 => fX11_readClaims u1) = some (anV n (spL n c).2.1 (spL n c).2.2 0, v) ∧ ((spL n c).2.2 = true → HeW (spL n c).1 (fun j => wtN D (clK n c j 0)) v) ∧ Fm [(2, 1), (2, 2), (2, 3), (12, 2)] [41] [] u v := by
    obtain ⟨u1, hu1⟩ : ∃ u1, u1 = sI u 12 2 0 := ⟨_, rfl⟩
    have f1 : Fm [(2, 1), (2, 2), (2, 3), (12, 2)] [41] [] u u1 := by rw [hu1]; exact Fm.rf.sI rfl
    have x1 : u1.1 1 1 = nI n ∧ RowN n (u1.2.1 15) c := by rw [hu1]; exact hxc
    obtain ⟨u2, e2, r2, f2⟩ := open_c (mo := 80) x1
    have f12 : Fm [(2, 1), (2, 2), (2, 3), (12, 2)] [41] [] u u2 := f1.trans (f2.mono rfl rfl rfl)
    have h12 : gI u2 12 2 = nI 0 := by rw [show gI u2 12 2 = gI u1 12 2 from f2.i 12 2 rfl, hu1]; rfl
    unfold fX0_clear fX11_readClaims fX7_isEmpty
    rw [nxs, oVs, ← hu1, show (80 : Int32) = nI 80 from rfl, e2, oVs, show gI u2 1 1 = nI n from (f2.i 1 1 rfl).trans x1.1]
    unfold spL
    by_cases h0 : n = 0
    · subst h0
      obtain ⟨u3, e3, r3, f3⟩ := dem_c (n := 0) (Nat.zero_le _) r2 true
      obtain ⟨u4, e4, f4⟩ := answer_c (n := 0) (Nat.zero_le _) r3 0
      rw [if_pos (show nI 0 = 0 from rfl), oBs, if_neg (show ¬ (1 : Int32) = 0 by decide), if_pos rfl, FU_s, fX11_readClaims_27, if_pos rfl]
      unfold fX11_readClaims_91 fX11_readClaims_104
      rw [if_pos rfl, show (1 : Int32) = bI true from rfl, e3, oBs, e4, oBs]
      exact ⟨u4, rfl, fun _ => ⟨(f4.i 12 2 rfl).trans ((f3.i 12 2 rfl).trans h12), fun j hj => absurd hj (Nat.not_lt_zero j)⟩, (f12.trans (f3.mono rfl rfl rfl)).trans (f4.mono rfl rfl rfl)⟩
    · obtain ⟨u3, e3, s3, f3⟩ := claims_c (D := D) ht hP 8 0 FU 0 u2 rfl (by decide) r2 ((f12.i 3 3 rfl).trans hC3) (fun p hp => by rw [f12.a 19 rfl]; exact hC19 p hp) h12
      rw [if_neg (fun q => h0 ((nI0 (by omega)).mp q)), oBs, if_pos rfl, if_neg h0, show fX11_readClaims_27 FU 1 0 u2 = _ from e3]
      refine ⟨u3, rfl, fun w => ?_, f12.trans (f3.mono rfl rfl rfl)⟩
      obtain ⟨s1, _, s2⟩ := s3 w
      rw [Nat.zero_add] at s1
      refine ⟨s1, fun j hj => ?_⟩
      have := s2 j hj
      rw [Nat.zero_add] at this; exact this
  obtain ⟨u1, e1, s1, f1⟩ := rc
  obtain ⟨u2, hu2⟩ : ∃ u2, u2 = sI u1 1 1 0 := ⟨_, rfl⟩
  have f12 : Fm [(1, 1), (2, 1), (2, 2), (2, 3), (12, 2)] [41] [] u u2 := by rw [hu2]; exact (f1.mono rfl rfl rfl).sI rfl
  have ecl : fX11_claims u = (if anV n (spL n c).2.1 (spL n c).2.2 0 = 0 then oB (fX0_tellMost u2) fun r4 u4 => some (r4, u4) else some (anV n (spL n c).2.1 (spL n c).2.2 0, u2)) := by
    unfold fX11_claims
    have h1 : ∀ K : Int32 → US → Option (Int32 × US), (oV (fX0_clear u) fun u1 => oB (fX11_readClaims u1) K) = K (anV n (spL n c).2.1 (spL n c).2.2 0) u1 := fun K => by
      have h2 : fX0_clear u = some (sI u 12 2 0) := rfl
      rw [h2, oVs] at e1 ⊢
      rw [e1, oBs]
    rw [h1, show fX7_clear u1 = some (sI u1 1 1 0) from rfl, oVs, ← hu2]
  -- the model reads
  have rm : ∀ w : US, w.1 47 18 = nI n → RowN n (w.2.1 57) c → ∃ v, fX12_claims w = (if (spL n c).2.2 then clG (nI (spL n c).1) v else some (-1 - nI (spL n c).2.1, v)) ∧ (spL n c).2.1 ≤ n ∧ gI v 47 18 = 0 ∧ ((spL n c).2.2 = true → ∀ j, j < (spL n c).1 → v.2.1 78 j = nI (clK n c j 0)) ∧ Fm [(47, 0), (47, 18), (47, 19), (47, 20), (47, 21)] [78] [] w v := by
    intro w h18 h57
    obtain ⟨w1, x1, r1, a1, b1, g1⟩ := begins_m (u := sI w 47 0 0) (mo := 80) ht ⟨h18, h57⟩
    have g01 : Fm [(47, 0), (47, 18), (47, 19), (47, 20), (47, 21)] [78] [] w w1 := (Fm.rf.sI rfl).trans (g1.mono rfl rfl rfl)
    unfold fX12_claims
    rw [nxs, show (80 : Int32) = nI 80 from rfl, x1, oBs]
    unfold spL
    by_cases h0 : n = 0
    · subst h0
      rw [if_pos (show nI 0 ≤ 0 by decide), if_pos rfl, FU_s, fX12_claims_27, if_pos rfl, if_neg (show ¬ (1 : Int32) = 0 by decide), show gI w1 47 20 = nI (min 0 80) from r1.1.2, show gI w1 47 19 = nI 0 from r1.2.1, if_pos (show nI (min 0 80) ≤ nI 0 by decide)]
      exact ⟨w1, rfl, Nat.le_refl _, a1, fun _ j hj => absurd hj (Nat.not_lt_zero j), g01⟩
    · obtain ⟨w2, e2, r2, s2, g2⟩ := claims_m ht 8 0 FU 0 w1 rfl (by decide) r1
      have := r2.2.2
      rw [if_neg (nI_nle (Nat.pos_of_ne_zero h0) (by omega)), if_neg h0, show fX12_claims_27 FU 0 1 1 w1 = _ from e2, Nat.zero_add]
      refine ⟨w2, rfl, (by omega), (g2.i 47 18 rfl).trans a1, fun w j hj => ?_, g01.trans (g2.mono rfl rfl rfl)⟩
      have := (s2 w).2 j hj
      rw [Nat.zero_add] at this; exact this
  have hfin : ∀ z : US, Fm [(1, 1), (2, 1), (2, 2), (2, 3), (12, 2), (12, 3), (8, 1), (47, 0), (47, 1), (47, 18), (47, 19), (47, 20), (47, 21), (47, 51)] [41, 42, 78, 79, 80] [33, 48] u z → z.1 1 1 = 0 → z.1 47 18 = 0 → ITold (z.1 8 1) (z.1 47 1) (z.2.2.1 33) (z.2.2.1 48) → Inv (kk + 1) z := fun z f z1 z2 tz => by
    refine Inv_rul hI (f.mono rfl rfl rfl).fmr z1 z2 tz ?_
    rw [f.2.2.2, f.i 13 2 rfl, f.i 14 2 rfl, f.i 47 26 rfl, f.a 43 rfl, f.a 45 rfl, f.a 59 rfl]; exact hRu
  cases hs : (spL n c).2.2 with
  | false =>
    have av : anV n (spL n c).2.1 (spL n c).2.2 0 = -1 - nI (spL n c).2.1 := by unfold anV; rw [hs]; rfl
    obtain ⟨w1, x1, hle, g18, _, g1⟩ := rm u2 ((f12.i 47 18 rfl).trans hxm.1) (by rw [f12.a 57 rfl]; exact hxm.2)
    rw [hs, if_neg (by decide)] at x1
    rw [av, if_neg (neg_n0 _ (by omega))] at ecl
    have fa : Fm [(1, 1), (2, 1), (2, 2), (2, 3), (12, 2), (12, 3), (8, 1), (47, 0), (47, 1), (47, 18), (47, 19), (47, 20), (47, 21), (47, 51)] [41, 42, 78, 79, 80] [33, 48] u w1 := (f12.mono rfl rfl rfl).trans (g1.mono rfl rfl rfl)
    refine ⟨_, u2, w1, ecl, x1, hfin w1 fa ?_ g18 ?_⟩
    · rw [g1.i 1 1 rfl, hu2]; rfl
    · rw [g1.i 8 1 rfl, g1.i 47 1 rfl, g1.j 33 rfl, g1.j 48 rfl, f12.i 8 1 rfl, f12.i 47 1 rfl, f12.j 33 rfl, f12.j 48 rfl]; exact hTo
  | true =>
    have hw2 : HeW (spL n c).1 (fun j => wtN D (clK n c j 0)) u2 := by rw [hu2]; exact s1 hs
    obtain ⟨u3, e3, t3, f3⟩ := tellMost_c hN8 hwt hw2
    have f13 : Fm [(1, 1), (2, 1), (2, 2), (2, 3), (12, 2), (12, 3), (8, 1)] [41, 42] [33] u u3 := (f12.mono rfl rfl rfl).trans (f3.mono rfl rfl rfl)
    obtain ⟨w1, x1, hle, g18, h78, g1⟩ := rm u3 ((f13.i 47 18 rfl).trans hxm.1) (by rw [f13.a 57 rfl]; exact hxm.2)
    have av : anV n (spL n c).2.1 (spL n c).2.2 0 = 0 := by unfold anV; rw [hs, hend hs hle, decide_eq_true rfl]; rfl
    rw [av, if_pos rfl, e3, oBs] at ecl
    rw [hs, if_pos rfl] at x1
    obtain ⟨w2, hw2'⟩ : ∃ w2, w2 = sI w1 47 51 (-1) := ⟨_, rfl⟩
    have g12 : Fm [(47, 0), (47, 18), (47, 19), (47, 20), (47, 21), (47, 51)] [78, 79, 80] [] u3 w2 := by rw [hw2']; exact (g1.mono rfl rfl rfl).sI rfl
    have GM : GvM D (spL n c).1 (fun j => clK n c j 0) w2 := by
      refine ⟨(g12.i 47 6 rfl).trans ((f13.i 47 6 rfl).trans hM6), fun j hj => ?_, fun p hp => ?_⟩
      · rw [hw2']; exact h78 hs j hj
      · rw [g12.a 52 rfl, f13.a 52 rfl]; exact hM52 p hp
    have hrel : ∀ p : Nat, p < 8 → (255 : Nat).testBit p = !(0 : Nat).testBit p := by decide +kernel
    obtain ⟨w3, e4, f4, _, p4, _⟩ := gives_m (N := (spL n c).1) (K := fun j => clK n c j 0) hN8 (fun j _ => clK_lt j 0) hP (spL n c).1 0 255 0 0 0 12 w2 (Nat.zero_add _) (by omega) (by decide) (by decide) hrel (Nat.le_refl _) (by decide) GM (by rw [hw2']; rfl)
    obtain ⟨q1, _, q3⟩ := p4 (Nat.zero_le _)
    have hmle := hmN_le (W := fun j => wtN D (clK n c j 0)) (spL n c).1 0 255
    have q1' : gI w3 47 51 = nI (hmN (fun j => wtN D (clK n c j 0)) (spL n c).1 0 255) := by rw [q1, Nat.zero_add]; exact bv_1 _ (by omega)
    obtain ⟨w4, e5, t5, f5⟩ := c142 (u := sI w3 47 1 0) hN8 (hmL_len (W := fun j => wtN D (clK n c j 0)) (spL n c).1 0 255) (fun j hj => by
      have := q3 j (by omega)
      rw [Nat.zero_add] at this; exact this) (clr_m w3)
    have em : fX12_claims u3 = some (nI (hmN (fun j => wtN D (clK n c j 0)) (spL n c).1 0 255), w4) := by
      rw [x1]
      unfold clG
      rw [nxs, ← hw2', show fX12_givesFrom 12 0 (nI (spL n c).1) 0 0 w2 = _ from e4, oVs, nxs, e5, show gI (sI w3 47 1 0) 47 51 = gI w3 47 51 from rfl, q1']
    have g34 : Fm [(47, 0), (47, 1), (47, 18), (47, 19), (47, 20), (47, 21), (47, 51)] [78, 79, 80] [48] u3 w4 := (((g12.mono rfl rfl rfl).trans (f4.mono rfl rfl rfl)).sI rfl).trans (f5.mono rfl rfl rfl)
    refine ⟨_, u3, w4, ecl, em, hfin w4 ((f13.mono rfl rfl rfl).trans (g34.mono rfl rfl rfl)) ?_ ?_ (told_of (t3.fm g34 rfl rfl) t5 ?_)⟩
    · rw [g34.i 1 1 rfl, f3.i 1 1 rfl, hu2]; rfl
    · rw [f5.i 47 18 rfl]
      show w3.1 47 18 = 0
      rw [f4.i 47 18 rfl, hw2']; exact g18
    · unfold hmT
      rw [List.length_map, hmL_len]; omega
