/-! rule: what the text says, and what the codes are worth -/
variable {D : DD} {m m' : MM} {e r : Nat} {u v w : US} {n mo p : Nat} {c : Nat → Nat} {ok : Bool}
/-- place behind, whether it is whole, the class's codes, the model's codes -/
abbrev RuR : Type := Nat × Bool × List Int32 × List Int32
def isd (n mo : Nat) (c : Nat → Nat) (q : Nat) : Bool := (sgO n mo c 48 10 q).isSome
def nuL (n mo : Nat) (c : Nat → Nat) (q : Nat) : Nat := if isd n mo c (q + 1) then (if isd n mo c (q + 2) then 3 else 2) else 1
def nuV (c : Nat → Nat) (q : Nat) : Nat → Nat
  | 0 => 0
  | k + 1 => nuV c q k * 10 + (c (q + k) - 48)
def opR (n mo : Nat) (c : Nat → Nat) (pc : Nat → RuR) (d q : Nat) : RuR :=
  if htB n mo c q 40 then (if 4 ≤ d then (q, false, [], []) else (if ((pc (q + 1)).2.1 && htB n mo c (pc (q + 1)).1 41) then ((pc (q + 1)).1 + 1, true, (pc (q + 1)).2.2) else ((pc (q + 1)).1, false, [], [])))
  else if isd n mo c q then (q + nuL n mo c q, true, [nI (1000 + nuV c q (nuL n mo c q))], [nI (nuV c q (nuL n mo c q))])
  else match amO n mo c 2 q with
    | some j => (q + 1, true, [nI (c q)], [nI (1000 + j)])
    | none => (q, false, [], [])
def mnN (n mo : Nat) (c : Nat → Nat) : Nat → Nat → Nat
  | 0, _ => 0
  | f + 1, q => if htB n mo c q 45 then mnN n mo c f (q + 1) + 1 else 0
def ngR (n mo : Nat) (c : Nat → Nat) (pc : Nat → RuR) (d q : Nat) : RuR :=
  ((opR n mo c pc d (q + mnN n mo c 40 q)).1, (opR n mo c pc d (q + mnN n mo c 40 q)).2.1, (opR n mo c pc d (q + mnN n mo c 40 q)).2.2.1 ++ (if mnN n mo c 40 q % 2 = 1 then [nI 126] else []), (opR n mo c pc d (q + mnN n mo c 40 q)).2.2.2 ++ List.replicate (mnN n mo c 40 q) (nI 3000))
/-- join what stands with what follows a sign -/
def jnR (a b : RuR) (x y : Int32) : RuR := (b.1, b.2.1, a.2.2.1 ++ b.2.2.1 ++ [x], a.2.2.2 ++ b.2.2.2 ++ [y])
def chR (n mo : Nat) (c : Nat → Nat) (sub : Nat → RuR) (ix bs : Nat) : Nat → RuR → RuR
  | 0, a => a
  | f + 1, a => if a.2.1 then (match amO n mo c ix a.1 with | some j => chR n mo c sub ix bs f (jnR a (sub (a.1 + 1)) (nI (c a.1)) (nI (bs + j))) | none => a) else a
def pdR (n mo : Nat) (c : Nat → Nat) (pc : Nat → RuR) (d q : Nat) : RuR := chR n mo c (ngR n mo c pc d) 5 2005 40 (ngR n mo c pc d q)
def smR (n mo : Nat) (c : Nat → Nat) (pc : Nat → RuR) (d q : Nat) : RuR := chR n mo c (pdR n mo c pc d) 4 2003 40 (pdR n mo c pc d q)
def cpR (n mo : Nat) (c : Nat → Nat) (pc : Nat → RuR) (d q : Nat) : RuR := chR n mo c (smR n mo c pc d) 3 2000 1 (smR n mo c pc d q)
/-- the whole: k deeper levels are left -/
def ruR (n mo : Nat) (c : Nat → Nat) : Nat → Nat → Nat → RuR
  | 0, _, q => (q, false, [], [])
  | k + 1, d, q => cpR n mo c (ruR n mo c k (d + 1)) d q
theorem evC_c {l h k s t c : Int32} {cs st : List Int32} : evC l h k s t (c :: cs) st = if c = 126 then (match st with | x :: r => evC l h k s t cs (-x :: r) | [] => none) else if 1000 ≤ c then evC l h k s t cs ((c - 1000) :: st) else if isNm c then evC l h k s t cs (nmC c l h k s t :: st) else (match st with | b :: a :: r => evC l h k s t cs (jnC c a b :: r) | _ => none) := by
  rw [evC.eq_def]; rfl
theorem evM_c {l h k s t c : Int32} {cs st : List Int32} : evM l h k s t (c :: cs) st = if c = 3000 then (match st with | x :: r => evM l h k s t cs (-x :: r) | [] => none) else if 2000 ≤ c then (match st with | b :: a :: r => evM l h k s t cs (wkM (c - 2000) a b :: r) | _ => none) else if 1000 ≤ c then (if 1005 < c then none else evM l h k s t cs (nmM (c - 1000) l h k s t :: st)) else evM l h k s t cs (c :: st) := by
  rw [evM.eq_def]; rfl
theorem evC_app {l h k s t : Int32} : ∀ (a b st : List Int32), evC l h k s t (a ++ b) st = (evC l h k s t a st).bind (evC l h k s t b)
  | [], b, st => rfl
  | x :: a, b, st => by
    rw [List.cons_append, evC_c, evC_c]
    by_cases q1 : x = 126
    · rw [if_pos q1, if_pos q1]
      cases st with
      | nil => rfl
      | cons y ys => exact evC_app a b _
    · rw [if_neg q1, if_neg q1]
      by_cases q2 : 1000 ≤ x
      · rw [if_pos q2, if_pos q2]; exact evC_app a b _
      · rw [if_neg q2, if_neg q2]
        by_cases q3 : isNm x = true
        · rw [if_pos q3, if_pos q3]; exact evC_app a b _
        · rw [if_neg q3, if_neg q3]
          match st with
          | [] => rfl
          | [_] => rfl
          | y :: z :: ys => exact evC_app a b _
theorem evM_app {l h k s t : Int32} : ∀ (a b st : List Int32), evM l h k s t (a ++ b) st = (evM l h k s t a st).bind (evM l h k s t b)
  | [], b, st => rfl
  | x :: a, b, st => by
    rw [List.cons_append, evM_c, evM_c]
    by_cases q1 : x = 3000
    · rw [if_pos q1, if_pos q1]
      cases st with
      | nil => rfl
      | cons y ys => exact evM_app a b _
    · rw [if_neg q1, if_neg q1]
      by_cases q2 : 2000 ≤ x
      · rw [if_pos q2, if_pos q2]
        match st with
        | [] => rfl
        | [_] => rfl
        | y :: z :: ys => exact evM_app a b _
      · rw [if_neg q2, if_neg q2]
        by_cases q3 : 1000 ≤ x
        · rw [if_pos q3, if_pos q3]
          by_cases q4 : 1005 < x
          · rw [if_pos q4, if_pos q4]; rfl
          · rw [if_neg q4, if_neg q4]; exact evM_app a b _
        · rw [if_neg q3, if_neg q3]; exact evM_app a b _
/-- both codes leave the same number on what stands -/
def Vl (cs ms : List Int32) : Prop := ∀ l h k s t : Int32, (∃ a : Nat, a < 10 ∧ l = nI a) → (∃ a : Nat, a < 256 ∧ h = nI a) → (∃ a : Nat, a < 8 ∧ k = nI a) → (∃ a : Nat, a < 10 ∧ s = nI a) → ∃ x, (∀ st, evC l h k s t cs st = some (x :: st)) ∧ ∀ st, evM l h k s t ms st = some (x :: st)
theorem Vl_rel {cs ms : List Int32} (h : Vl cs ms) (h1 : cs ≠ []) (h2 : ms ≠ []) : RuleRel cs ms := Or.inr ⟨h1, h2, fun l hh k s t a1 a2 a3 a4 => by
  obtain ⟨x, e1, e2⟩ := h l hh k s t a1 a2 a3 a4
  exact ⟨x, e1 [], e2 []⟩⟩
theorem Vl_num {a : Nat} (ha : a < 1000) : Vl [nI (1000 + a)] [nI a] := by
  intro l h k s t _ _ _ _
  refine ⟨nI a, fun st => ?_, fun st => ?_⟩
  · rw [evC_c, if_neg (show ¬ nI (1000 + a) = 126 from fun x => by have := congrArg Int32.toInt x; rw [nI_toInt (by omega)] at this; have h4 : (126 : Int32).toInt = 126 := rfl; omega), if_pos (show (1000 : Int32) ≤ nI (1000 + a) from nI_le (a := 1000) (by omega) (by omega)), show nI (1000 + a) - 1000 = nI a from (pk_sub (a := 1000 + a) (b := 1000) (by omega)).trans (by rw [Nat.add_sub_cancel_left])]; rfl
  · rw [evM_c, if_neg (show ¬ nI a = 3000 from fun x => by have := congrArg Int32.toInt x; rw [nI_toInt (by omega)] at this; have h4 : (3000 : Int32).toInt = 3000 := rfl; omega), if_neg (show ¬ (2000 : Int32) ≤ nI a from nI_ge (b := 2000) (by omega) (by omega)), if_neg (show ¬ (1000 : Int32) ≤ nI a from nI_ge (b := 1000) (by omega) (by omega))]; rfl
theorem Vl_neg {cs ms : List Int32} (h : Vl cs ms) : ∀ k : Nat, Vl (cs ++ (if k % 2 = 1 then [nI 126] else [])) (ms ++ List.replicate k (nI 3000)) := by
  intro k l hh kk s t a1 a2 a3 a4
  obtain ⟨x, e1, e2⟩ := h l hh kk s t a1 a2 a3 a4
  have key : ∀ k : Nat, ∀ st, evM l hh kk s t (ms ++ List.replicate k (nI 3000)) st = some ((if k % 2 = 1 then -x else x) :: st) := by
    intro k
    induction k with
    | zero => intro st; rw [List.replicate_zero, List.append_nil, e2]; rfl
    | succ k ih =>
      intro st
      rw [List.replicate_succ', ← List.append_assoc, evM_app, ih]
      show evM l hh kk s t [nI 3000] ((if k % 2 = 1 then -x else x) :: st) = _
      rw [evM_c, if_pos (show nI 3000 = 3000 from rfl)]
      show some ((-(if k % 2 = 1 then -x else x)) :: st) = _
      by_cases q : k % 2 = 1
      · rw [if_pos q, if_neg (show ¬ (k + 1) % 2 = 1 by omega), Int32.neg_neg]
      · rw [if_neg q, if_pos (show (k + 1) % 2 = 1 by omega)]
  refine ⟨if k % 2 = 1 then -x else x, fun st => ?_, key k⟩
  rw [evC_app, e1]
  show evC l hh kk s t _ (x :: st) = _
  by_cases q : k % 2 = 1
  · rw [if_pos q, if_pos q, evC_c, if_pos (show nI 126 = 126 from rfl)]; rfl
  · rw [if_neg q, if_neg q]; rfl
theorem Vl_op {c1 m1 c2 m2 : List Int32} {x y : Int32} (h1 : Vl c1 m1) (h2 : Vl c2 m2) (hx : ¬ x = 126) (hx2 : ¬ 1000 ≤ x) (hx3 : isNm x = false) (hy : ¬ y = 3000) (hy2 : 2000 ≤ y) (hj : ∀ a b, jnC x a b = wkM (y - 2000) a b) : Vl (c1 ++ c2 ++ [x]) (m1 ++ m2 ++ [y]) := by
  intro l hh kk s t a1 a2 a3 a4
  obtain ⟨z, e1, e2⟩ := h1 l hh kk s t a1 a2 a3 a4
  obtain ⟨w, e3, e4⟩ := h2 l hh kk s t a1 a2 a3 a4
  refine ⟨jnC x z w, fun st => ?_, fun st => ?_⟩
  · rw [evC_app, evC_app, e1]
    show (evC l hh kk s t c2 (z :: st)).bind _ = _
    rw [e3]
    show evC l hh kk s t [x] (w :: z :: st) = _
    rw [evC_c, if_neg hx, if_neg hx2, hx3, if_neg (by decide)]; rfl
  · rw [evM_app, evM_app, e2]
    show (evM l hh kk s t m2 (z :: st)).bind _ = _
    rw [e4]
    show evM l hh kk s t [y] (w :: z :: st) = _
    rw [evM_c, if_neg hy, if_pos hy2, hj]; rfl
theorem nm3r : ∀ a : Nat, a < 256 → ∀ b : Nat, b < 8 → (ush (nI a) (nI b)) &&& 1 = (nI a >>> (nI b &&& 31)) &&& 1 := by decide +kernel
theorem Vl_nm {x y : Int32} (hx : ¬ x = 126) (hx2 : ¬ 1000 ≤ x) (hx3 : isNm x = true) (hy : ¬ y = 3000) (hy2 : ¬ 2000 ≤ y) (hy3 : 1000 ≤ y) (hy4 : ¬ 1005 < y) (hj : ∀ l h k s t : Int32, (∃ a : Nat, a < 256 ∧ h = nI a) → (∃ a : Nat, a < 8 ∧ k = nI a) → nmC x l h k s t = nmM (y - 1000) l h k s t) : Vl [x] [y] := by
  intro l h k s t a1 a2 a3 a4
  refine ⟨nmC x l h k s t, fun st => ?_, fun st => ?_⟩
  · rw [evC_c, if_neg hx, if_neg hx2, hx3, if_pos rfl]; rfl
  · rw [evM_c, if_neg hy, if_neg hy2, if_pos hy3, if_neg hy4, ← hj l h k s t a2 a3]; rfl
theorem Vl_name {j : Nat} (h : amO n mo c 2 p = some j) : Vl [nI (c p)] [nI (1000 + j)] := by
  unfold amO at h
  by_cases q : p < min n mo
  · rw [if_pos q] at h
    obtain ⟨h1, h2⟩ := fs_lt h
    have h2' := of_decide_eq_true h2
    have hj : j < 6 := h1
    rcases (show j = 0 ∨ j = 1 ∨ j = 2 ∨ j = 3 ∨ j = 4 ∨ j = 5 by omega) with rfl | rfl | rfl | rfl | rfl | rfl
    · rw [← h2']; exact Vl_nm (by decide) (by decide) (by decide) (by decide) (by decide) (by decide) (by decide) (fun l h k s t _ _ => rfl)
    · rw [← h2']; exact Vl_nm (by decide) (by decide) (by decide) (by decide) (by decide) (by decide) (by decide) (fun l h k s t _ _ => rfl)
    · rw [← h2']; exact Vl_nm (by decide) (by decide) (by decide) (by decide) (by decide) (by decide) (by decide) (fun l h k s t _ _ => rfl)
    · rw [← h2']; exact Vl_nm (by decide) (by decide) (by decide) (by decide) (by decide) (by decide) (by decide) (fun l h k s t ⟨a, ha, ea⟩ ⟨b, hb, eb⟩ => by
        subst ea; subst eb; exact nm3r a ha b hb)
    · rw [← h2']; exact Vl_nm (by decide) (by decide) (by decide) (by decide) (by decide) (by decide) (by decide) (fun l h k s t _ _ => rfl)
    · rw [← h2']; exact Vl_nm (by decide) (by decide) (by decide) (by decide) (by decide) (by decide) (by decide) (fun l h k s t _ _ => rfl)
  · rw [if_neg q] at h; cases h
theorem Vl_sg {c1 m1 c2 m2 : List Int32} {ix bs j : Nat} (hix : (ix = 3 ∧ bs = 2000) ∨ (ix = 4 ∧ bs = 2003) ∨ (ix = 5 ∧ bs = 2005)) (h : amO n mo c ix p = some j) (h1 : Vl c1 m1) (h2 : Vl c2 m2) : Vl (c1 ++ c2 ++ [nI (c p)]) (m1 ++ m2 ++ [nI (bs + j)]) := by
  unfold amO at h
  by_cases q : p < min n mo
  · rw [if_pos q] at h
    obtain ⟨e1, e2⟩ := fs_lt h
    have e2' := of_decide_eq_true e2
    rcases hix with ⟨rfl, rfl⟩ | ⟨rfl, rfl⟩ | ⟨rfl, rfl⟩
    · have hj : j < 3 := e1
      rcases (show j = 0 ∨ j = 1 ∨ j = 2 by omega) with rfl | rfl | rfl <;> rw [← e2'] <;> exact Vl_op h1 h2 (by decide) (by decide) (by decide) (by decide) (by decide) (fun a b => rfl)
    · have hj : j < 2 := e1
      rcases (show j = 0 ∨ j = 1 by omega) with rfl | rfl <;> rw [← e2'] <;> exact Vl_op h1 h2 (by decide) (by decide) (by decide) (by decide) (by decide) (fun a b => rfl)
    · have hj : j < 2 := e1
      rcases (show j = 0 ∨ j = 1 by omega) with rfl | rfl <;> rw [← e2'] <;> exact Vl_op h1 h2 (by decide) (by decide) (by decide) (by decide) (by decide) (fun a b => rfl)
  · rw [if_neg q] at h; cases h
/-- a reading stays in the text; a whole one has a worth and no more codes than signs -/
def Gd (M q : Nat) (r : RuR) : Prop := q ≤ r.1 ∧ r.1 ≤ M ∧ (r.2.1 = true → q < r.1 ∧ Vl r.2.2.1 r.2.2.2 ∧ 1 ≤ r.2.2.1.length ∧ r.2.2.1.length ≤ r.1 - q ∧ 1 ≤ r.2.2.2.length ∧ r.2.2.2.length ≤ r.1 - q)
theorem ht_lt {s : Nat} (h : htB n mo c p s = true) : p < min n mo := by
  unfold htB at h
  rw [Bool.and_eq_true] at h
  exact of_decide_eq_true h.1
theorem isd_hp (h : isd n mo c p = true) : p < min n mo ∧ 48 ≤ c p ∧ c p < 58 := by
  unfold isd at h
  cases ho : sgO n mo c 48 10 p with
  | none => rw [ho] at h; cases h
  | some x =>
    obtain ⟨a, b, d, _⟩ := sg_hp ho
    exact ⟨a, b, d⟩
theorem nu_hp (h : isd n mo c p = true) : 1 ≤ nuL n mo c p ∧ nuL n mo c p ≤ 3 ∧ p + nuL n mo c p ≤ min n mo ∧ nuV c p (nuL n mo c p) < 1000 := by
  obtain ⟨a0, a1, a2⟩ := isd_hp h
  unfold nuL
  by_cases q1 : isd n mo c (p + 1) = true
  · obtain ⟨b0, b1, b2⟩ := isd_hp q1
    rw [if_pos q1]
    by_cases q2 : isd n mo c (p + 2) = true
    · obtain ⟨d0, d1, d2⟩ := isd_hp q2
      rw [if_pos q2]
      refine ⟨by decide, by decide, (by omega), ?_⟩
      show ((0 * 10 + (c (p + 0) - 48)) * 10 + (c (p + 1) - 48)) * 10 + (c (p + 2) - 48) < 1000
      rw [Nat.add_zero]; omega
    · rw [if_neg q2]
      refine ⟨by decide, by decide, (by omega), ?_⟩
      show (0 * 10 + (c (p + 0) - 48)) * 10 + (c (p + 1) - 48) < 1000
      rw [Nat.add_zero]; omega
  · rw [if_neg q1]
    refine ⟨by decide, by decide, (by omega), ?_⟩
    show 0 * 10 + (c (p + 0) - 48) < 1000
    rw [Nat.add_zero]; omega
theorem am_p {ix j : Nat} (h : amO n mo c ix p = some j) : p < min n mo := by
  unfold amO at h
  by_cases q : p < min n mo
  · exact q
  · rw [if_neg q] at h; cases h
theorem op_gd {pc : Nat → RuR} {d q : Nat} (hpc : ∀ q, q ≤ min n mo → Gd (min n mo) q (pc q)) (hq : q ≤ min n mo) : Gd (min n mo) q (opR n mo c pc d q) := by
  unfold opR
  by_cases q1 : htB n mo c q 40 = true
  · have hl := ht_lt q1
    rw [if_pos q1]
    by_cases q2 : 4 ≤ d
    · rw [if_pos q2]; exact ⟨Nat.le_refl _, hq, fun h => by cases h⟩
    · rw [if_neg q2]
      obtain ⟨g1, g2, g3⟩ := hpc (q + 1) hl
      by_cases q3 : ((pc (q + 1)).2.1 && htB n mo c (pc (q + 1)).1 41) = true
      · rw [if_pos q3]
        rw [Bool.and_eq_true] at q3
        have hl2 := ht_lt q3.2
        obtain ⟨k1, k2, k3, k4, k5, k6⟩ := g3 q3.1
        refine ⟨?_, ?_, fun _ => ⟨?_, k2, k3, ?_, k5, ?_⟩⟩
        · show q ≤ (pc (q + 1)).1 + 1
          omega
        · show (pc (q + 1)).1 + 1 ≤ _
          omega
        · show q < (pc (q + 1)).1 + 1
          omega
        · show (pc (q + 1)).2.2.1.length ≤ (pc (q + 1)).1 + 1 - q
          omega
        · show (pc (q + 1)).2.2.2.length ≤ (pc (q + 1)).1 + 1 - q
          omega
      · rw [if_neg q3]
        refine ⟨?_, g2, fun h => by cases h⟩
        show q ≤ (pc (q + 1)).1
        omega
  · rw [if_neg q1]
    by_cases q2 : isd n mo c q = true
    · rw [if_pos q2]
      obtain ⟨a1, a2, a3, a4⟩ := nu_hp q2
      refine ⟨Nat.le_add_right _ _, a3, fun _ => ⟨?_, Vl_num a4, Nat.le_refl 1, ?_, Nat.le_refl 1, ?_⟩⟩
      · show q < q + nuL n mo c q
        omega
      · show 1 ≤ q + nuL n mo c q - q
        omega
      · show 1 ≤ q + nuL n mo c q - q
        omega
    · rw [if_neg q2]
      cases ho : amO n mo c 2 q with
      | none => exact ⟨Nat.le_refl _, hq, fun h => by cases h⟩
      | some j =>
        have := am_p ho
        refine ⟨Nat.le_succ _, this, fun _ => ⟨Nat.lt_succ_self _, Vl_name ho, Nat.le_refl 1, ?_, Nat.le_refl 1, ?_⟩⟩
        · show 1 ≤ q + 1 - q
          omega
        · show 1 ≤ q + 1 - q
          omega
theorem mn_le {f : Nat} : ∀ q, q ≤ min n mo → q + mnN n mo c f q ≤ min n mo := by
  induction f with
  | zero => intro q h; exact h
  | succ f ih =>
    intro q h
    rw [mnN]
    by_cases w : htB n mo c q 45 = true
    · rw [if_pos w]
      have := ih (q + 1) (ht_lt w)
      omega
    · rw [if_neg w]; exact h
theorem ng_gd {pc : Nat → RuR} {d q : Nat} (hpc : ∀ q, q ≤ min n mo → Gd (min n mo) q (pc q)) (hq : q ≤ min n mo) : Gd (min n mo) q (ngR n mo c pc d q) := by
  have hm := mn_le (c := c) (f := 40) q hq
  obtain ⟨g1, g2, g3⟩ := op_gd (c := c) (d := d) hpc hm
  unfold ngR
  generalize mnN n mo c 40 q = k at *
  generalize opR n mo c pc d (q + k) = r at *
  refine ⟨?_, g2, fun h => ?_⟩
  · show q ≤ r.1
    omega
  · obtain ⟨k1, k2, k3, k4, k5, k6⟩ := g3 h
    refine ⟨?_, Vl_neg k2 k, ?_, ?_, ?_, ?_⟩
    · show q < r.1
      omega
    · show 1 ≤ (r.2.2.1 ++ _).length
      rw [List.length_append]; omega
    · show (r.2.2.1 ++ (if k % 2 = 1 then [nI 126] else [])).length ≤ r.1 - q
      rw [List.length_append]
      by_cases w : k % 2 = 1
      · rw [if_pos w]
        show r.2.2.1.length + 1 ≤ _
        omega
      · rw [if_neg w]
        show r.2.2.1.length + 0 ≤ _
        omega
    · show 1 ≤ (r.2.2.2 ++ _).length
      rw [List.length_append]; omega
    · show (r.2.2.2 ++ List.replicate k (nI 3000)).length ≤ r.1 - q
      rw [List.length_append, List.length_replicate]; omega
theorem ch_gd {sub : Nat → RuR} {ix bs : Nat} (hix : (ix = 3 ∧ bs = 2000) ∨ (ix = 4 ∧ bs = 2003) ∨ (ix = 5 ∧ bs = 2005)) (hs : ∀ q, q ≤ min n mo → Gd (min n mo) q (sub q)) {q : Nat} : ∀ f a, Gd (min n mo) q a → Gd (min n mo) q (chR n mo c sub ix bs f a)
  | 0, a, h => h
  | f + 1, a, h => by
    rw [chR]
    by_cases w : a.2.1 = true
    · rw [if_pos w]
      cases ho : amO n mo c ix a.1 with
      | none => exact h
      | some j =>
        refine ch_gd hix hs f _ ?_
        have hl := am_p ho
        obtain ⟨g1, g2, g3⟩ := hs (a.1 + 1) hl
        obtain ⟨h1, h2, h3⟩ := h
        obtain ⟨k1, k2, k3, k4, k5, k6⟩ := h3 w
        generalize sub (a.1 + 1) = b at *
        refine ⟨?_, g2, fun hb => ?_⟩
        · show q ≤ b.1
          omega
        · obtain ⟨l1, l2, l3, l4, l5, l6⟩ := g3 hb
          refine ⟨?_, Vl_sg hix ho k2 l2, ?_, ?_, ?_, ?_⟩
          · show q < b.1
            omega
          · show 1 ≤ (a.2.2.1 ++ b.2.2.1 ++ [_]).length
            rw [List.length_append, List.length_append]; omega
          · show (a.2.2.1 ++ b.2.2.1 ++ [_]).length ≤ b.1 - q
            rw [List.length_append, List.length_append, List.length_singleton]; omega
          · show 1 ≤ (a.2.2.2 ++ b.2.2.2 ++ [_]).length
            rw [List.length_append, List.length_append]; omega
          · show (a.2.2.2 ++ b.2.2.2 ++ [_]).length ≤ b.1 - q
            rw [List.length_append, List.length_append, List.length_singleton]; omega
    · rw [if_neg w]; exact h
theorem pd_gd {pc : Nat → RuR} {d q : Nat} (hpc : ∀ q, q ≤ min n mo → Gd (min n mo) q (pc q)) (hq : q ≤ min n mo) : Gd (min n mo) q (pdR n mo c pc d q) := ch_gd (Or.inr (Or.inr ⟨rfl, rfl⟩)) (fun _ h => ng_gd hpc h) 40 _ (ng_gd hpc hq)
theorem sm_gd {pc : Nat → RuR} {d q : Nat} (hpc : ∀ q, q ≤ min n mo → Gd (min n mo) q (pc q)) (hq : q ≤ min n mo) : Gd (min n mo) q (smR n mo c pc d q) := ch_gd (Or.inr (Or.inl ⟨rfl, rfl⟩)) (fun _ h => pd_gd hpc h) 40 _ (pd_gd hpc hq)
theorem cp_gd {pc : Nat → RuR} {d q : Nat} (hpc : ∀ q, q ≤ min n mo → Gd (min n mo) q (pc q)) (hq : q ≤ min n mo) : Gd (min n mo) q (cpR n mo c pc d q) := ch_gd (Or.inl ⟨rfl, rfl⟩) (fun _ h => sm_gd hpc h) 1 _ (sm_gd hpc hq)
theorem ru_gd : ∀ k d q, q ≤ min n mo → Gd (min n mo) q (ruR n mo c k d q)
  | 0, _, _, h => ⟨Nat.le_refl _, h, fun h => by cases h⟩
  | k + 1, d, _, h => cp_gd (fun q h => ru_gd k (d + 1) q h) h
/-! rule: the class reads -/
/-- which rule is being written -/
def IsV (v0 : Nat) : Prop := v0 = 13 ∨ v0 = 14
def FR (v0 : Nat) (u v : US) : Prop := (v0 = 13 → Fm [(2, 2), (2, 3), (13, 2)] [43] [] u v) ∧ (v0 = 14 → Fm [(2, 2), (2, 3), (14, 2)] [45] [] u v)
theorem FR.rf {v0 : Nat} : FR v0 u u := ⟨fun _ => Fm.rf, fun _ => Fm.rf⟩
theorem FR.trans {v0 : Nat} (h : FR v0 u v) (h2 : FR v0 v w) : FR v0 u w := ⟨fun q => (h.1 q).trans (h2.1 q), fun q => (h.2 q).trans (h2.2 q)⟩
theorem FR.fc {v0 : Nat} (h : Fc u v) : FR v0 u v := ⟨fun _ => h.mono rfl rfl rfl, fun _ => h.mono rfl rfl rfl⟩
/-- the codes written so far -/
def Cd (v0 : Nat) (L : List Int32) (u : US) : Prop := gI u v0 2 = nI L.length ∧ L.length ≤ 40 ∧ codL (u.2.1 (fpt v0 0)) L.length = L
def Cn (v0 : Nat) (u : US) : Prop := ∃ a : Nat, a ≤ 40 ∧ gI u v0 2 = nI a
theorem Cd.cn {v0 : Nat} {L : List Int32} (h : Cd v0 L u) : Cn v0 u := ⟨_, h.2.1, h.1⟩
theorem isV_r {v0 : Nat} (h : IsV v0) : isRul v0 = true := by rcases h with rfl | rfl <;> rfl
theorem Cd.fc {v0 : Nat} {L : List Int32} (hv : IsV v0) (h : Cd v0 L u) (f : Fc u v) : Cd v0 L v := by
  rcases hv with rfl | rfl
  · exact ⟨(f.i 13 2 rfl).trans h.1, h.2.1, by rw [show fpt 13 0 = 43 from rfl, f.a 43 rfl]; exact h.2.2⟩
  · exact ⟨(f.i 14 2 rfl).trans h.1, h.2.1, by rw [show fpt 14 0 = 45 from rfl, f.a 45 rfl]; exact h.2.2⟩
theorem Cn.fc {v0 : Nat} (hv : IsV v0) (h : Cn v0 u) (f : Fc u v) : Cn v0 v := by
  obtain ⟨a, h1, h2⟩ := h
  rcases hv with rfl | rfl
  · exact ⟨a, h1, (f.i 13 2 rfl).trans h2⟩
  · exact ⟨a, h1, (f.i 14 2 rfl).trans h2⟩
theorem cod_upd {f : Nat → Int32} {L : List Int32} {x : Int32} (h : codL f L.length = L) : codL (upd f L.length x) (L.length + 1) = L ++ [x] := by
  unfold codL at h ⊢
  rw [List.range_succ, List.map_append, List.map_singleton, pk_us]
  congr 1
  refine Eq.trans (List.map_congr_left fun j hj => ?_) h
  exact pk_un (by have := List.mem_range.mp hj; omega)
theorem emit_c {v0 : Nat} (hv : IsV v0) {L : List Int32} (h : Cd v0 L u) (hl : L.length < 40) (x : Int32) (hr : Rc n mo c p ok u) : ∃ v, fX6_emit v0 x u = some v ∧ Cd v0 (L ++ [x]) v ∧ Rc n mo c p ok v ∧ FR v0 u v := by
  unfold fX6_emit
  obtain ⟨h1, h2, h3⟩ := h
  have i1 := inb_nI (show L.length < 40 by omega) (show 40 < 2 ^ 31 by decide)
  rw [gd_t (isV_r hv), h1, if_neg (show ¬ (40 : Int32) ≤ nI L.length from nI_ge (b := 40) (by omega) (by omega))]
  rcases hv with rfl | rfl
  · rw [show fpt 13 0 = 43 from rfl, show ln 43 = 40 from rfl, gd_t i1, nxs, nxs]
    refine ⟨_, rfl, ⟨?_, ?_, ?_⟩, ?_, ⟨fun _ => (Fm.rf.sA rfl).sI rfl, fun q => absurd q (by decide)⟩⟩
    · show gI u 13 2 + 1 = _
      rw [h1, nI_1, List.length_append]; rfl
    · rw [List.length_append]; exact hl
    · show codL (upd (u.2.1 43) (nI L.length).toNatClampNeg x) (L ++ [x]).length = _
      rw [nI_clamp (by omega), List.length_append]; exact cod_upd h3
    · exact hr.fm (a := [(13, 2)]) (b := [43]) (d := []) ((Fm.rf.sA rfl).sI rfl) rfl rfl
  · rw [show fpt 14 0 = 45 from rfl, show ln 45 = 40 from rfl, gd_t i1, nxs, nxs]
    refine ⟨_, rfl, ⟨?_, ?_, ?_⟩, ?_, ⟨fun q => absurd q (by decide), fun _ => (Fm.rf.sA rfl).sI rfl⟩⟩
    · show gI u 14 2 + 1 = _
      rw [h1, nI_1, List.length_append]; rfl
    · rw [List.length_append]; exact hl
    · show codL (upd (u.2.1 45) (nI L.length).toNatClampNeg x) (L ++ [x]).length = _
      rw [nI_clamp (by omega), List.length_append]; exact cod_upd h3
    · exact hr.fm (a := [(14, 2)]) (b := [45]) (d := []) ((Fm.rf.sA rfl).sI rfl) rfl rfl
theorem emit_n {v0 : Nat} (hv : IsV v0) (h : Cn v0 u) (x : Int32) (hr : Rc n mo c p ok u) : ∃ v, fX6_emit v0 x u = some v ∧ Cn v0 v ∧ Rc n mo c p ok v ∧ FR v0 u v := by
  obtain ⟨a, h1, h2⟩ := h
  unfold fX6_emit
  rw [gd_t (isV_r hv), h2]
  by_cases q : a = 40
  · rw [if_pos (show (40 : Int32) ≤ nI a by rw [q]; decide)]
    exact ⟨u, rfl, ⟨a, h1, h2⟩, hr, FR.rf⟩
  · rw [if_neg (show ¬ (40 : Int32) ≤ nI a from nI_ge (b := 40) (by omega) (by omega))]
    have i1 := inb_nI (show a < 40 by omega) (show 40 < 2 ^ 31 by decide)
    rcases hv with rfl | rfl
    · rw [show fpt 13 0 = 43 from rfl, show ln 43 = 40 from rfl, gd_t i1, nxs, nxs]
      refine ⟨_, rfl, ⟨a + 1, (by omega), ?_⟩, ?_, ⟨fun _ => (Fm.rf.sA rfl).sI rfl, fun q => absurd q (by decide)⟩⟩
      · show gI u 13 2 + 1 = _
        rw [h2, nI_1]
      · exact hr.fm (a := [(13, 2)]) (b := [43]) (d := []) ((Fm.rf.sA rfl).sI rfl) rfl rfl
    · rw [show fpt 14 0 = 45 from rfl, show ln 45 = 40 from rfl, gd_t i1, nxs, nxs]
      refine ⟨_, rfl, ⟨a + 1, (by omega), ?_⟩, ?_, ⟨fun q => absurd q (by decide), fun _ => (Fm.rf.sA rfl).sI rfl⟩⟩
      · show gI u 14 2 + 1 = _
        rw [h2, nI_1]
      · exact hr.fm (a := [(14, 2)]) (b := [45]) (d := []) ((Fm.rf.sA rfl).sI rfl) rfl rfl
theorem atd_c (ht : Tok n mo c) (h : Rc n mo c p ok u) : fX5_atDigit u = some (bI (ok && isd n mo c p), u) := by
  unfold fX5_atDigit
  rw [peek_c ht h, oBs, peek_c ht h]
  cases ok with
  | false => rw [pk_f, if_pos (show (-1 : Int32) < 48 by decide)]; rfl
  | true =>
    by_cases q : p < min n mo
    · have hc := ht.2.2 p (by omega)
      rw [pk_y q, Bool.true_and]
      unfold isd sgO
      by_cases q1 : 48 ≤ c p
      · rw [if_neg (show ¬ nI (c p) < 48 from nI_nlt (b := 48) (by omega) (by omega))]
        by_cases q2 : c p < 58
        · rw [oBs, if_neg (show ¬ (57 : Int32) < nI (c p) from nI_nlt (a := 57) (by omega) (by omega)), if_pos ⟨q, q1, q2⟩]; rfl
        · rw [oBs, if_pos (show (57 : Int32) < nI (c p) from nI_lt (a := 57) (by omega) (by omega)), if_neg (fun w => q2 w.2.2)]; rfl
      · rw [if_pos (show nI (c p) < 48 from nI_lt (b := 48) (by omega) (by omega)), if_neg (fun w => q1 w.2.1)]; rfl
    · rw [pk_n q, if_pos (show (-1 : Int32) < 48 by decide)]
      unfold isd sgO
      rw [if_neg (fun w => q w.1)]; rfl
/-- behind a fault nothing more is read -/
def Ff (n mo : Nat) (c : Nat → Nat) (p v0 : Nat) (u : US) (o : Option US) : Prop := ∃ v, o = some v ∧ Rc n mo c p false v ∧ Cn v0 v ∧ FR v0 u v
theorem opd_f (ht : Tok n mo c) {g : Nat → Int32 → US → Option US} {v0 : Nat} (hv : IsV v0) {d : Int32} (h : Rc n mo c p false u) (hc : Cn v0 u) : Ff n mo c p v0 u (GX6_readOperand g v0 d u) := by
  unfold GX6_readOperand
  obtain ⟨v, e1, r1, f1⟩ := dem_c ht.1 h false
  rw [gd_t (isV_r hv), peek_c ht h, oBs, pk_f, if_neg (by decide), atd_c ht h, oBs, Bool.false_and, if_pos (show bI false = 0 from rfl), show fX6_isName (-1) u = some (bI false, u) from rfl, oBs, e1, oBs, Bool.false_and, if_pos (show bI false = 0 from rfl)]
  exact ⟨v, rfl, r1, hc.fc hv f1, FR.fc f1⟩
theorem neg_f (ht : Tok n mo c) {g : Nat → Int32 → US → Option US} {v0 : Nat} (hv : IsV v0) {d : Int32} (h : Rc n mo c p false u) (hc : Cn v0 u) : Ff n mo c p v0 u (GX6_readNegated g v0 d u) := by
  unfold GX6_readNegated
  obtain ⟨v, e1, r1, f1⟩ := pass_c ht h (s := 45) (by decide)
  rw [Bool.false_and, if_neg (by decide)] at r1
  rw [Bool.false_and] at e1
  obtain ⟨w, e2, r2, c2, f2⟩ := opd_f ht (g := g) hv (d := d) r1 (hc.fc hv f1)
  rw [gd_t (isV_r hv), show FU = 4095 + 1 from rfl, fX6_readNegated_5, if_neg (by decide), show (45 : Int32) = nI 45 from rfl, e1, oBs, if_pos (show bI false = 0 from rfl)]
  unfold fX6_readNegated_37
  rw [e2, oVs, if_pos rfl]
  exact ⟨w, rfl, r2, c2, (FR.fc f1).trans f2⟩
theorem prd_f (ht : Tok n mo c) {g : Nat → Int32 → US → Option US} {v0 : Nat} (hv : IsV v0) {d : Int32} (h : Rc n mo c p false u) (hc : Cn v0 u) : Ff n mo c p v0 u (GX6_readProduct g v0 d u) := by
  unfold GX6_readProduct
  obtain ⟨w, e2, r2, c2, f2⟩ := neg_f ht (g := g) hv (d := d) h hc
  rw [gd_t (isV_r hv), e2, oVs, show FU = 4095 + 1 from rfl, fX6_readProduct_8, if_neg (by decide), peek_c ht r2, oBs, pk_f, if_neg (by decide), if_neg (by decide)]
  exact ⟨w, rfl, r2, c2, f2⟩
theorem sum_f (ht : Tok n mo c) {g : Nat → Int32 → US → Option US} {v0 : Nat} (hv : IsV v0) {d : Int32} (h : Rc n mo c p false u) (hc : Cn v0 u) : Ff n mo c p v0 u (GX6_readSum g v0 d u) := by
  unfold GX6_readSum
  obtain ⟨w, e2, r2, c2, f2⟩ := prd_f ht (g := g) hv (d := d) h hc
  rw [gd_t (isV_r hv), e2, oVs, show FU = 4095 + 1 from rfl, fX6_readSum_8, if_neg (by decide), peek_c ht r2, oBs, pk_f, if_neg (by decide), if_neg (by decide)]
  exact ⟨w, rfl, r2, c2, f2⟩
/-- what the class has after a reading -/
def CR (n mo : Nat) (c : Nat → Nat) (v0 : Nat) (L : List Int32) (r : RuR) (u : US) (o : Option US) : Prop := ∃ v, o = some v ∧ Rc n mo c r.1 r.2.1 v ∧ FR v0 u v ∧ Cn v0 v ∧ (r.2.1 = true → Cd v0 (L ++ r.2.2.1) v)
theorem dg1_c (ht : Tok n mo c) (h : Rc n mo c p true u) (hd : isd n mo c p = true) : ∃ v, fX5_digit 10 u = some (nI (c p - 48), v) ∧ Rc n mo c (p + 1) true v ∧ Fc u v := by
  obtain ⟨v, e1, r1, f1⟩ := dig_c ht (s := (p, true)) h (k := 10) (by decide)
  unfold isd at hd
  cases ho : sgO n mo c 48 10 p with
  | none => rw [ho] at hd; cases hd
  | some x =>
    obtain ⟨_, _, _, a3⟩ := sg_hp ho
    rw [show sgO n mo c 48 10 (p, true).1 = some x from ho] at e1 r1
    refine ⟨v, ?_, r1, f1⟩
    rw [show (10 : Int32) = nI 10 from rfl, e1, ← a3]; rfl
theorem num_c (ht : Tok n mo c) {v0 : Nat} (hv : IsV v0) {L : List Int32} (h : Rc n mo c p true u) (hL : Cd v0 L u) (hl : L.length < 40) (hd : isd n mo c p = true) : CR n mo c v0 L (p + nuL n mo c p, true, [nI (1000 + nuV c p (nuL n mo c p))], [nI (nuV c p (nuL n mo c p))]) u (fX6_readNumber v0 u) := by
  have fin : ∀ (k : Nat) (w : US), Rc n mo c (p + k) true w → Fc u w → CR n mo c v0 L (p + k, true, [nI (1000 + nuV c p k)], [nI (nuV c p k)]) u (fX6_readNumber_34 v0 (nI (nuV c p k)) w) := by
    intro k w hr hf
    obtain ⟨v, e1, c1, r1, f1⟩ := emit_c hv (hL.fc hv hf) hl (nI (1000 + nuV c p k)) hr
    unfold fX6_readNumber_34
    rw [show (1000 : Int32) + nI (nuV c p k) = nI (1000 + nuV c p k) from nI_add 1000 _, e1, oVs]
    exact ⟨v, rfl, r1, (FR.fc hf).trans f1, c1.cn, fun _ => c1⟩
  have step : ∀ (f k : Nat) (w : US), k < 3 → Rc n mo c (p + k) true w → Fc u w → isd n mo c (p + k) = true → ∃ w', fX6_readNumber_4 v0 (f + 1) (nI (nuV c p k)) (nI k) w = fX6_readNumber_4 v0 f (nI (nuV c p (k + 1))) (nI (k + 1)) w' ∧ Rc n mo c (p + (k + 1)) true w' ∧ Fc u w' := by
    intro f k w hk hr hf hi
    obtain ⟨w', e1, r1, f1⟩ := dg1_c ht hr hi
    refine ⟨w', ?_, r1, hf.trans f1⟩
    rw [fX6_readNumber_4, if_neg (show ¬ (3 : Int32) ≤ nI k from nI_ge (b := 3) hk (by omega)), atd_c ht hr, oBs, Bool.true_and, hi, if_neg (show ¬ bI true = 0 by decide), e1, oBs, show (10 : Int32) = nI 10 from rfl, pk_mul, nI_add, nI_1]; rfl
  have stop : ∀ (f k : Nat) (w : US), k ≤ 3 → Rc n mo c (p + k) true w → Fc u w → (k = 3 ∨ isd n mo c (p + k) = false) → CR n mo c v0 L (p + k, true, [nI (1000 + nuV c p k)], [nI (nuV c p k)]) u (fX6_readNumber_4 v0 (f + 1) (nI (nuV c p k)) (nI k) w) := by
    intro f k w hk hr hf hi
    rw [fX6_readNumber_4]
    by_cases q : k = 3
    · rw [if_pos (show (3 : Int32) ≤ nI k by rw [q]; decide)]; exact fin k w hr hf
    · have hi' : isd n mo c (p + k) = false := hi.resolve_left q
      rw [if_neg (show ¬ (3 : Int32) ≤ nI k from nI_ge (b := 3) (by omega) (by omega)), atd_c ht hr, oBs, hi', Bool.and_false, if_pos (show bI false = 0 from rfl)]; exact fin k w hr hf
  unfold fX6_readNumber
  rw [gd_t (isV_r hv), show FU = 4092 + 1 + 1 + 1 + 1 from rfl]
  obtain ⟨w1, e1, r1, f1⟩ := step (4092 + 1 + 1 + 1) 0 u (by omega) h Fm.rf hd
  rw [show fX6_readNumber_4 v0 (4092 + 1 + 1 + 1 + 1) 0 0 u = fX6_readNumber_4 v0 (4092 + 1 + 1 + 1 + 1) (nI (nuV c p 0)) (nI 0) u from rfl, e1]
  unfold nuL
  cases q1 : isd n mo c (p + 1) with
  | false => rw [if_neg (by decide)]; exact stop _ 1 w1 (by omega) r1 f1 (Or.inr q1)
  | true =>
    rw [if_pos rfl]
    obtain ⟨w2, e2, r2, f2⟩ := step (4092 + 1 + 1) 1 w1 (by omega) r1 f1 q1
    rw [e2]
    cases q2 : isd n mo c (p + 2) with
    | false => rw [if_neg (by decide)]; exact stop _ 2 w2 (by omega) r2 f2 (Or.inr q2)
    | true =>
      rw [if_pos rfl]
      obtain ⟨w3, e3, r3, f3⟩ := step (4092 + 1) 2 w2 (by omega) r2 f2 q2
      rw [e3]
      exact stop _ 3 w3 (by omega) r3 f3 (Or.inl rfl)
theorem isNm_c (x : Int32) (u : US) : fX6_isName x u = some (bI (isNm x), u) := by
  unfold fX6_isName isNm
  by_cases h1 : x = 107
  · subst h1; rfl
  by_cases h2 : x = 115
  · subst h2; rfl
  by_cases h3 : x = 108
  · subst h3; rfl
  by_cases h4 : x = 104
  · subst h4; rfl
  by_cases h5 : x = 110
  · subst h5; rfl
  by_cases h6 : x = 116
  · subst h6; rfl
  rw [if_neg h1, if_neg h2, if_neg h3, if_neg h4, if_neg h5, if_neg h6, beq_eq_false_iff_ne.mpr h1, beq_eq_false_iff_ne.mpr h2, beq_eq_false_iff_ne.mpr h3, beq_eq_false_iff_ne.mpr h4, beq_eq_false_iff_ne.mpr h5, beq_eq_false_iff_ne.mpr h6]; rfl
theorem isNm_ix : ∀ x : Nat, x < 256 → isNm (nI x) = (ixO 2 x).isSome := by decide +kernel
theorem isNm_pk (ht : Tok n mo c) : isNm (pkV n mo c p true) = (amO n mo c 2 p).isSome := by
  unfold amO
  by_cases q : p < min n mo
  · rw [pk_y q, if_pos q, isNm_ix _ (ht.2.2 p (by omega))]
  · rw [pk_n q, if_neg q]; rfl
theorem ht_eq {s : Nat} (h : htB n mo c p s = true) : c p = s := by
  unfold htB at h
  rw [Bool.and_eq_true] at h
  exact of_decide_eq_true h.2
theorem pk_ne (ht : Tok n mo c) {s : Nat} (hs : s < 256) (h : htB n mo c p s = false) : ¬ pkV n mo c p true = nI s := by
  by_cases q : p < min n mo
  · rw [pk_y q]
    intro x
    have hc := ht.2.2 p (by omega)
    have := congrArg Int32.toInt x
    rw [nI_toInt (by omega), nI_toInt (by omega)] at this
    unfold htB at h
    rw [decide_eq_true q, decide_eq_true (show c p = s by omega)] at h
    cases h
  · rw [pk_n q]
    intro x
    have := congrArg Int32.toInt x
    rw [nI_toInt (by omega)] at this
    have h4 : (-1 : Int32).toInt = -1 := rfl
    omega
theorem opd_c (ht : Tok n mo c) (hM : min n mo ≤ 40) {g : Nat → Int32 → US → Option US} {pc : Nat → RuR} {v0 d : Nat} (hv : IsV v0) (hd : d ≤ 4) (hg : d < 4 → ∀ (q : Nat) (L : List Int32) (w : US), q ≤ min n mo → Rc n mo c q true w → Cd v0 L w → L.length ≤ q → CR n mo c v0 L (pc q) w (g v0 (nI (d + 1)) w)) {L : List Int32} (h : Rc n mo c p true u) (hL : Cd v0 L u) (hl : L.length ≤ p) : CR n mo c v0 L (opR n mo c pc d p) u (GX6_readOperand g v0 (nI d) u) := by
  unfold GX6_readOperand opR
  rw [gd_t (isV_r hv), peek_c ht h, oBs]
  cases q1 : htB n mo c p 40 with
  | true =>
    have hp := ht_lt q1
    rw [if_pos rfl, pk_y hp, ht_eq q1, if_pos (show nI 40 = 40 from rfl)]
    by_cases q2 : 4 ≤ d
    · obtain ⟨v, e1, r1, f1⟩ := dem_c ht.1 h false
      rw [if_pos q2, if_pos (show (4 : Int32) ≤ nI d from nI_le (a := 4) q2 (by omega))]
      unfold fX6_readOperand_22
      rw [show (0 : Int32) = bI false from rfl, e1, oBs, Bool.and_false, if_pos rfl]
      exact ⟨v, rfl, r1, FR.fc f1, (hL.fc hv f1).cn, fun w => by cases w⟩
    · obtain ⟨v, e1, r1, f1⟩ := dem_c ht.1 h true
      obtain ⟨v2, e2, r2, f2⟩ := pass_c ht r1 (s := 40) (by decide)
      rw [q1] at r2
      obtain ⟨v3, e3, r3, f3, n3, c3⟩ := hg (by omega) (p + 1) L v2 hp r2 ((hL.fc hv f1).fc hv f2) (by omega)
      obtain ⟨v4, e4, r4, f4⟩ := pass_c ht r3 (s := 41) (by decide)
      obtain ⟨v5, e5, r5, f5⟩ := dem_c ht.1 r4 ((pc (p + 1)).2.1 && htB n mo c (pc (p + 1)).1 41)
      rw [if_neg q2, if_neg (show ¬ (4 : Int32) ≤ nI d from nI_ge (b := 4) (by omega) (by omega))]
      unfold fX6_readOperand_22
      rw [show (1 : Int32) = bI true from rfl, e1, oBs, Bool.and_true, if_neg (show ¬ bI true = 0 by decide), show (40 : Int32) = nI 40 from rfl, e2, oBs, show bI true = 1 from rfl, nI_1, e3, oVs, show (41 : Int32) = nI 41 from rfl, e4, oBs, e5, oBs]
      have ff : FR v0 u v5 := ((((FR.fc f1).trans (FR.fc f2)).trans f3).trans (FR.fc f4)).trans (FR.fc f5)
      cases q3 : ((pc (p + 1)).2.1 && htB n mo c (pc (p + 1)).1 41) with
      | true =>
        rw [q3, if_pos rfl] at r5
        rw [if_pos rfl]
        have q3' := q3
        rw [Bool.and_eq_true] at q3'
        rw [q3'.1] at r5
        exact ⟨v5, rfl, r5, ff, (n3.fc hv f4).fc hv f5, fun _ => ((c3 q3'.1).fc hv f4).fc hv f5⟩
      | false =>
        rw [q3, if_neg (by decide), Bool.and_false] at r5
        rw [if_neg (by decide)]
        exact ⟨v5, rfl, r5, ff, (n3.fc hv f4).fc hv f5, fun w => by cases w⟩
  | false =>
    rw [if_neg (by decide), if_neg (show ¬ pkV n mo c p true = 40 from pk_ne ht (s := 40) (by decide) q1), atd_c ht h, oBs, Bool.true_and]
    cases q2 : isd n mo c p with
    | true =>
      have hp := (isd_hp q2).1
      rw [if_pos rfl, if_neg (show ¬ bI true = 0 by decide)]
      obtain ⟨v, e1, r1, f1, n1, c1⟩ := num_c ht hv h hL (by omega) q2
      rw [e1, oVs]
      exact ⟨v, rfl, r1, f1, n1, c1⟩
    | false =>
      obtain ⟨v, e1, r1, f1⟩ := dem_c ht.1 h (amO n mo c 2 p).isSome
      rw [if_neg (by decide), if_pos (show bI false = 0 from rfl), isNm_c, oBs, isNm_pk ht, e1, oBs, Bool.true_and]
      rw [Bool.true_and] at r1
      cases ho : amO n mo c 2 p with
      | none =>
        rw [ho] at r1
        rw [if_pos (show bI (none : Option Nat).isSome = 0 from rfl)]
        exact ⟨v, rfl, r1, FR.fc f1, (hL.fc hv f1).cn, fun w => by cases w⟩
      | some j =>
        have hp := am_p ho
        have hc := ht.2.2 p (by omega)
        rw [ho] at r1
        rw [if_neg (show ¬ bI (some j).isSome = 0 from (show ¬ bI true = 0 by decide)), pk_y hp]
        obtain ⟨v2, e2, r2, f2⟩ := pass_c ht r1 (s := c p) hc
        have hh : htB n mo c p (c p) = true := by unfold htB; rw [decide_eq_true hp, decide_eq_true rfl]; rfl
        rw [hh] at r2
        obtain ⟨v3, e3, c3, r3, f3⟩ := emit_c hv ((hL.fc hv f1).fc hv f2) (by omega) (nI (c p)) r2
        rw [e2, oBs, e3, oVs]
        exact ⟨v3, rfl, r3, ((FR.fc f1).trans (FR.fc f2)).trans f3, c3.cn, fun _ => c3⟩
theorem mn_at {f : Nat} : ∀ q i, i < mnN n mo c f q → htB n mo c (q + i) 45 = true := by
  induction f with
  | zero => intro q i h; exact absurd h (Nat.not_lt_zero i)
  | succ f ih =>
    intro q i h
    rw [mnN] at h
    by_cases w : htB n mo c q 45 = true
    · rw [if_pos w] at h
      cases i with
      | zero => exact w
      | succ i =>
        have := ih (q + 1) i (by omega)
        rw [show q + (i + 1) = q + 1 + i by omega]; exact this
    · rw [if_neg w] at h; exact absurd h (Nat.not_lt_zero i)
theorem mn_end {f : Nat} : ∀ q, mnN n mo c f q < f → htB n mo c (q + mnN n mo c f q) 45 = false := by
  induction f with
  | zero => intro q h; exact absurd h (Nat.not_lt_zero _)
  | succ f ih =>
    intro q h
    rw [mnN] at h ⊢
    cases w : htB n mo c q 45 with
    | true =>
      rw [w, if_pos rfl] at h
      rw [if_pos rfl]
      have := ih (q + 1) (by omega)
      rw [show q + (mnN n mo c f (q + 1) + 1) = q + 1 + mnN n mo c f (q + 1) by omega]; exact this
    | false => rw [if_neg (by decide)]; exact w
theorem mn_f {f : Nat} : ∀ q, mnN n mo c f q ≤ f := by
  induction f with
  | zero => intro q; exact Nat.le_refl _
  | succ f ih =>
    intro q
    rw [mnN]
    by_cases w : htB n mo c q 45 = true
    · rw [if_pos w]; exact Nat.succ_le_succ (ih _)
    · rw [if_neg w]; exact Nat.zero_le _
theorem neg_c (ht : Tok n mo c) (hM : min n mo ≤ 40) {g : Nat → Int32 → US → Option US} {pc : Nat → RuR} {v0 d : Nat} (hv : IsV v0) (hd : d ≤ 4) (hpc : ∀ q, q ≤ min n mo → Gd (min n mo) q (pc q)) (hg : d < 4 → ∀ (q : Nat) (L : List Int32) (w : US), q ≤ min n mo → Rc n mo c q true w → Cd v0 L w → L.length ≤ q → CR n mo c v0 L (pc q) w (g v0 (nI (d + 1)) w)) {L : List Int32} (h : Rc n mo c p true u) (hL : Cd v0 L u) (hl : L.length ≤ p) (hp : p ≤ min n mo) : CR n mo c v0 L (ngR n mo c pc d p) u (GX6_readNegated g v0 (nI d) u) := by
  have hk40 := mn_f (n := n) (mo := mo) (c := c) (f := 40) p
  have hkM := mn_le (c := c) (f := 40) p hp
  have hat := mn_at (n := n) (mo := mo) (c := c) (f := 40) p
  have hend := mn_end (n := n) (mo := mo) (c := c) (f := 40) p
  unfold GX6_readNegated ngR
  rw [gd_t (isV_r hv)]
  generalize mnN n mo c 40 p = k at *
  have fin : ∀ w, Rc n mo c (p + k) true w → Fc u w → CR n mo c v0 L ((opR n mo c pc d (p + k)).1, (opR n mo c pc d (p + k)).2.1, (opR n mo c pc d (p + k)).2.2.1 ++ (if k % 2 = 1 then [nI 126] else []), (opR n mo c pc d (p + k)).2.2.2 ++ List.replicate k (nI 3000)) u (fX6_readNegated_37 g v0 (nI d) (bI (decide (k % 2 = 1))) w) := by
    intro w hr hf
    obtain ⟨v, e1, r1, f1, n1, c1⟩ := opd_c ht hM hv hd hg hr (hL.fc hv hf) (show L.length ≤ p + k by omega)
    obtain ⟨g1, g2, g3⟩ := op_gd (c := c) (d := d) hpc hkM
    unfold fX6_readNegated_37
    rw [e1, oVs]
    by_cases q : k % 2 = 1
    · rw [decide_eq_true q, if_neg (show ¬ bI true = 0 by decide), if_pos q]
      cases ho : (opR n mo c pc d (p + k)).2.1 with
      | true =>
        rw [ho] at r1
        obtain ⟨k1, k2, k3, k4, k5, k6⟩ := g3 ho
        obtain ⟨v2, e2, c2, r2, f2⟩ := emit_c hv (c1 ho) (by rw [List.length_append]; omega) (nI 126) r1
        rw [show (126 : Int32) = nI 126 from rfl, e2, oVs]
        exact ⟨v2, rfl, r2, ((FR.fc hf).trans f1).trans f2, c2.cn, fun _ => by rw [← List.append_assoc]; exact c2⟩
      | false =>
        rw [ho] at r1
        obtain ⟨v2, e2, c2, r2, f2⟩ := emit_n hv n1 (nI 126) r1
        rw [show (126 : Int32) = nI 126 from rfl, e2, oVs]
        exact ⟨v2, rfl, r2, ((FR.fc hf).trans f1).trans f2, c2, fun w => by cases w⟩
    · rw [decide_eq_false q, if_pos (show bI false = 0 from rfl), if_neg q, List.append_nil]
      exact ⟨v, rfl, r1, (FR.fc hf).trans f1, n1, c1⟩
  refine lpE (fun f (z : Int32 × Int32) w => fX6_readNegated_5 g v0 (nI d) f z.1 z.2 w) k (fun i => (bI (decide (i % 2 = 1)), nI i)) (fun i w => Rc n mo c (p + i) true w ∧ Fc u w) (fun o => CR n mo c v0 L _ u o) ?_ ?_ (by omega) (0, 0) rfl ⟨h, Fm.rf⟩
  · rintro f i w hi ⟨hr, hf⟩
    left
    obtain ⟨v, e1, r1, f1⟩ := pass_c ht hr (s := 45) (by decide)
    rw [hat i hi] at r1 e1
    refine ⟨v, ⟨r1, hf.trans f1⟩, ?_⟩
    show fX6_readNegated_5 g v0 (nI d) (f + 1) (bI (decide (i % 2 = 1))) (nI i) w = _
    rw [fX6_readNegated_5, if_neg (show ¬ (40 : Int32) ≤ nI i from nI_ge (b := 40) (by omega) (by omega)), show (45 : Int32) = nI 45 from rfl, e1, oBs, if_neg (show ¬ bI (true && true) = 0 by decide), nI_1]
    by_cases q : i % 2 = 1
    · rw [decide_eq_true q, if_neg (show ¬ bI true = 0 by decide), decide_eq_false (show ¬ (i + 1) % 2 = 1 by omega)]; rfl
    · rw [decide_eq_false q, if_pos (show bI false = 0 from rfl), decide_eq_true (show (i + 1) % 2 = 1 by omega)]; rfl
  · rintro f w ⟨hr, hf⟩
    show CR n mo c v0 L _ u (fX6_readNegated_5 g v0 (nI d) (f + 1) (bI (decide (k % 2 = 1))) (nI k) w)
    rw [fX6_readNegated_5]
    by_cases q : k = 40
    · rw [if_pos (show (40 : Int32) ≤ nI k by rw [q]; decide)]; exact fin w hr hf
    · obtain ⟨v, e1, r1, f1⟩ := pass_c ht hr (s := 45) (by decide)
      rw [hend (by omega)] at r1 e1
      rw [if_neg (show ¬ (40 : Int32) ≤ nI k from nI_ge (b := 40) (by omega) (by omega)), show (45 : Int32) = nI 45 from rfl, e1, oBs, if_pos (show bI (true && false) = 0 by decide)]
      exact fin v r1 (hf.trans f1)
theorem jn_gd {ix bs j q : Nat} {a b : RuR} (hix : (ix = 3 ∧ bs = 2000) ∨ (ix = 4 ∧ bs = 2003) ∨ (ix = 5 ∧ bs = 2005)) (ho : amO n mo c ix a.1 = some j) (h : Gd (min n mo) q a) (w : a.2.1 = true) (hb : Gd (min n mo) (a.1 + 1) b) : Gd (min n mo) q (jnR a b (nI (c a.1)) (nI (bs + j))) := by
  have := ch_gd (n := n) (mo := mo) (c := c) (sub := fun x => if x = a.1 + 1 then b else (x, false, [], [])) hix (fun x hx => by
    by_cases e : x = a.1 + 1
    · subst e; rw [if_pos rfl]; exact hb
    · rw [if_neg e]; exact ⟨Nat.le_refl _, hx, fun h => by cases h⟩) (q := q) 1 a h
  rw [chR, if_pos w, ho] at this
  simp only [chR, if_pos] at this
  exact this
theorem chn_c (ht : Tok n mo c) (hM : min n mo ≤ 40) {v0 ix bs : Nat} (hv : IsV v0) (hix : (ix = 3 ∧ bs = 2000) ∨ (ix = 4 ∧ bs = 2003) ∨ (ix = 5 ∧ bs = 2005)) {sub : Nat → RuR} (Sub : US → Option US) (hgd : ∀ q, q ≤ min n mo → Gd (min n mo) q (sub q)) (hsub : ∀ (q : Nat) (L : List Int32) (w : US), q ≤ min n mo → Rc n mo c q true w → Cd v0 L w → L.length ≤ q → CR n mo c v0 L (sub q) w (Sub w)) (Lp : Nat → Int32 → US → Option US)
    (hA : ∀ f w, Lp (f + 1) (nI 40) w = some w)
    (hB : ∀ f i q ok w, i < 40 → Rc n mo c q ok w → (ok = false ∨ amO n mo c ix q = none) → Lp (f + 1) (nI i) w = some w)
    (hC : ∀ f i q j w, i < 40 → Rc n mo c q true w → amO n mo c ix q = some j → Lp (f + 1) (nI i) w = oB (fX5_passes (nI (c q)) w) fun _ u1 => oV (Sub u1) fun u2 => oV (fX6_emit v0 (nI (c q)) u2) fun u3 => Lp f (nI i + 1) u3)
    {L : List Int32} (hl : L.length ≤ p) : ∀ (k i f : Nat) (a : RuR) (w : US), i + k = 40 → k < f → Gd (min n mo) p a → Rc n mo c a.1 a.2.1 w → FR v0 u w → Cn v0 w → (a.2.1 = true → Cd v0 (L ++ a.2.2.1) w) → CR n mo c v0 L (chR n mo c sub ix bs k a) u (Lp f (nI i) w)
  | 0, i, f, a, w, hi, hf, hg, hr, hfr, hn, hc => by
    obtain ⟨f, rfl⟩ : ∃ f', f = f' + 1 := ⟨f - 1, (by omega)⟩
    have : i = 40 := by omega
    subst this
    rw [hA]
    exact ⟨w, rfl, hr, hfr, hn, hc⟩
  | k + 1, i, f, a, w, hi, hf, hg, hr, hfr, hn, hc => by
    obtain ⟨f, rfl⟩ : ∃ f', f = f' + 1 := ⟨f - 1, (by omega)⟩
    rw [chR]
    cases ha : a.2.1 with
    | false =>
      rw [if_neg (by decide), hB f i a.1 a.2.1 w (by omega) hr (Or.inl ha)]
      exact ⟨w, rfl, hr, hfr, hn, hc⟩
    | true =>
      rw [if_pos rfl]
      cases ho : amO n mo c ix a.1 with
      | none =>
        rw [hB f i a.1 a.2.1 w (by omega) hr (Or.inr ho)]
        exact ⟨w, rfl, hr, hfr, hn, hc⟩
      | some j =>
        have hp := am_p ho
        have hcp := ht.2.2 a.1 (by omega)
        rw [ha] at hr
        obtain ⟨g1, g2, g3⟩ := hg
        obtain ⟨k1, k2, k3, k4, k5, k6⟩ := g3 ha
        obtain ⟨v1, e1, r1, f1⟩ := pass_c ht hr (s := c a.1) hcp
        have hh : htB n mo c a.1 (c a.1) = true := by unfold htB; rw [decide_eq_true hp, decide_eq_true rfl]; rfl
        rw [hh] at r1
        obtain ⟨v2, e2, r2, f2, n2, c2⟩ := hsub (a.1 + 1) (L ++ a.2.2.1) v1 hp r1 ((hc ha).fc hv f1) (by rw [List.length_append]; omega)
        have gb := hgd (a.1 + 1) hp
        have gj := jn_gd (b := sub (a.1 + 1)) hix ho ⟨g1, g2, g3⟩ ha gb
        rw [hC f i a.1 j w (by omega) hr ho, e1, oBs, e2, oVs]
        cases hb : (sub (a.1 + 1)).2.1 with
        | true =>
          rw [hb] at r2
          obtain ⟨l1, l2, l3, l4, l5, l6⟩ := gb.2.2 hb
          have := gb.2.1
          obtain ⟨v3, e3, c3, r3, f3⟩ := emit_c hv (c2 hb) (by rw [List.length_append, List.length_append]; omega) (nI (c a.1)) r2
          rw [e3, oVs, nI_1]
          refine chn_c ht hM hv hix Sub hgd hsub Lp hA hB hC hl k (i + 1) f _ v3 (by omega) (by omega) gj ?_ (((hfr.trans (FR.fc f1)).trans f2).trans f3) c3.cn (fun _ => ?_)
          · show Rc n mo c (sub (a.1 + 1)).1 (sub (a.1 + 1)).2.1 v3
            rw [hb]; exact r3
          · show Cd v0 (L ++ (a.2.2.1 ++ (sub (a.1 + 1)).2.2.1 ++ [nI (c a.1)])) v3
            rw [← List.append_assoc, ← List.append_assoc]; exact c3
        | false =>
          rw [hb] at r2
          obtain ⟨v3, e3, c3, r3, f3⟩ := emit_n hv n2 (nI (c a.1)) r2
          rw [e3, oVs, nI_1]
          refine chn_c ht hM hv hix Sub hgd hsub Lp hA hB hC hl k (i + 1) f _ v3 (by omega) (by omega) gj ?_ (((hfr.trans (FR.fc f1)).trans f2).trans f3) c3 (fun q => ?_)
          · show Rc n mo c (sub (a.1 + 1)).1 (sub (a.1 + 1)).2.1 v3
            rw [hb]; exact r3
          · exact absurd (show (sub (a.1 + 1)).2.1 = true from q) (by rw [hb]; decide)
theorem ix5 : ∀ x : Nat, x < 256 → (ixO 5 x = none → x ≠ 42 ∧ x ≠ 47) ∧ ((ixO 5 x).isSome = true → x = 42 ∨ x = 47) := by decide +kernel
theorem ix4 : ∀ x : Nat, x < 256 → (ixO 4 x = none → x ≠ 43 ∧ x ≠ 45) ∧ ((ixO 4 x).isSome = true → x = 43 ∨ x = 45) := by decide +kernel
theorem ix3 : ∀ x : Nat, x < 256 → (ixO 3 x = none → x ≠ 60 ∧ x ≠ 62 ∧ x ≠ 61) ∧ ((ixO 3 x).isSome = true → x = 60 ∨ x = 62 ∨ x = 61) := by decide +kernel
theorem pk_ne2 (ht : Tok n mo c) {s : Nat} (hs : s < 256) (h : p < min n mo → c p ≠ s) : ¬ pkV n mo c p true = nI s := pk_ne ht hs (by
  unfold htB
  by_cases q : p < min n mo
  · rw [decide_eq_false (h q), Bool.and_false]
  · rw [decide_eq_false q, Bool.false_and])
theorem am_no {ix : Nat} (h : amO n mo c ix p = none) (q : p < min n mo) : ixO ix (c p) = none := by
  unfold amO at h; rw [if_pos q] at h; exact h
theorem am_so {ix j : Nat} (h : amO n mo c ix p = some j) : (ixO ix (c p)).isSome = true := by
  have q := am_p h
  unfold amO at h; rw [if_pos q] at h; rw [h]; rfl
theorem prd_c (ht : Tok n mo c) (hM : min n mo ≤ 40) {g : Nat → Int32 → US → Option US} {pc : Nat → RuR} {v0 d : Nat} (hv : IsV v0) (hd : d ≤ 4) (hpc : ∀ q, q ≤ min n mo → Gd (min n mo) q (pc q)) (hg : d < 4 → ∀ (q : Nat) (L : List Int32) (w : US), q ≤ min n mo → Rc n mo c q true w → Cd v0 L w → L.length ≤ q → CR n mo c v0 L (pc q) w (g v0 (nI (d + 1)) w)) {L : List Int32} (h : Rc n mo c p true u) (hL : Cd v0 L u) (hl : L.length ≤ p) (hp : p ≤ min n mo) : CR n mo c v0 L (pdR n mo c pc d p) u (GX6_readProduct g v0 (nI d) u) := by
  obtain ⟨w, e1, r1, f1, n1, c1⟩ := neg_c ht hM hv hd hpc hg h hL hl hp
  unfold GX6_readProduct
  rw [gd_t (isV_r hv), e1, oVs]
  refine chn_c (ix := 5) (bs := 2005) ht hM hv (Or.inr (Or.inr ⟨rfl, rfl⟩)) (fun x => GX6_readNegated g v0 (nI d) x) (fun q hq => ng_gd hpc hq) (fun q L w hq hr hc hl => neg_c ht hM hv hd hpc hg hr hc hl hq) (fun f x w => fX6_readProduct_8 g v0 (nI d) f x w) (fun f w => ?_) (fun f i q ok w hi hr ho => ?_) (fun f i q j w hi hr ho => ?_) hl 40 0 FU _ w (by omega) (show 40 < FU by decide) (ng_gd hpc hp) r1 f1 n1 c1
  · rw [fX6_readProduct_8, if_pos (show (40 : Int32) ≤ nI 40 by decide)]
  · rw [fX6_readProduct_8, if_neg (show ¬ (40 : Int32) ≤ nI i from nI_ge (b := 40) (by omega) (by omega)), peek_c ht hr, oBs]
    cases ok with
    | false => rw [pk_f, if_neg (by decide), if_neg (by decide)]
    | true =>
      have ho' := ho.resolve_left (by decide)
      rw [if_neg (show ¬ pkV n mo c q true = 42 from pk_ne2 ht (s := 42) (by decide) (fun w => ((ix5 _ (ht.2.2 q (by omega))).1 (am_no ho' w)).1)), if_neg (show ¬ pkV n mo c q true = 47 from pk_ne2 ht (s := 47) (by decide) (fun w => ((ix5 _ (ht.2.2 q (by omega))).1 (am_no ho' w)).2))]
  · have hq := am_p ho
    rw [fX6_readProduct_8, if_neg (show ¬ (40 : Int32) ≤ nI i from nI_ge (b := 40) (by omega) (by omega)), peek_c ht hr, oBs, pk_y hq]
    rcases (ix5 _ (ht.2.2 q (by omega))).2 (am_so ho) with w | w
    · rw [w, if_pos (show nI 42 = 42 from rfl)]; rfl
    · rw [w, if_neg (show ¬ nI 47 = 42 by decide), if_pos (show nI 47 = 47 from rfl)]; rfl
theorem sum_c (ht : Tok n mo c) (hM : min n mo ≤ 40) {g : Nat → Int32 → US → Option US} {pc : Nat → RuR} {v0 d : Nat} (hv : IsV v0) (hd : d ≤ 4) (hpc : ∀ q, q ≤ min n mo → Gd (min n mo) q (pc q)) (hg : d < 4 → ∀ (q : Nat) (L : List Int32) (w : US), q ≤ min n mo → Rc n mo c q true w → Cd v0 L w → L.length ≤ q → CR n mo c v0 L (pc q) w (g v0 (nI (d + 1)) w)) {L : List Int32} (h : Rc n mo c p true u) (hL : Cd v0 L u) (hl : L.length ≤ p) (hp : p ≤ min n mo) : CR n mo c v0 L (smR n mo c pc d p) u (GX6_readSum g v0 (nI d) u) := by
  obtain ⟨w, e1, r1, f1, n1, c1⟩ := prd_c ht hM hv hd hpc hg h hL hl hp
  unfold GX6_readSum
  rw [gd_t (isV_r hv), e1, oVs]
  refine chn_c (ix := 4) (bs := 2003) ht hM hv (Or.inr (Or.inl ⟨rfl, rfl⟩)) (fun x => GX6_readProduct g v0 (nI d) x) (fun q hq => pd_gd hpc hq) (fun q L w hq hr hc hl => prd_c ht hM hv hd hpc hg hr hc hl hq) (fun f x w => fX6_readSum_8 g v0 (nI d) f x w) (fun f w => ?_) (fun f i q ok w hi hr ho => ?_) (fun f i q j w hi hr ho => ?_) hl 40 0 FU _ w (by omega) (show 40 < FU by decide) (pd_gd hpc hp) r1 f1 n1 c1
  · rw [fX6_readSum_8, if_pos (show (40 : Int32) ≤ nI 40 by decide)]
  · rw [fX6_readSum_8, if_neg (show ¬ (40 : Int32) ≤ nI i from nI_ge (b := 40) (by omega) (by omega)), peek_c ht hr, oBs]
    cases ok with
    | false => rw [pk_f, if_neg (by decide), if_neg (by decide)]
    | true =>
      have ho' := ho.resolve_left (by decide)
      rw [if_neg (show ¬ pkV n mo c q true = 43 from pk_ne2 ht (s := 43) (by decide) (fun w => ((ix4 _ (ht.2.2 q (by omega))).1 (am_no ho' w)).1)), if_neg (show ¬ pkV n mo c q true = 45 from pk_ne2 ht (s := 45) (by decide) (fun w => ((ix4 _ (ht.2.2 q (by omega))).1 (am_no ho' w)).2))]
  · have hq := am_p ho
    rw [fX6_readSum_8, if_neg (show ¬ (40 : Int32) ≤ nI i from nI_ge (b := 40) (by omega) (by omega)), peek_c ht hr, oBs, pk_y hq]
    rcases (ix4 _ (ht.2.2 q (by omega))).2 (am_so ho) with w | w
    · rw [w, if_pos (show nI 43 = 43 from rfl)]; rfl
    · rw [w, if_neg (show ¬ nI 45 = 43 by decide), if_pos (show nI 45 = 45 from rfl)]; rfl
def cmpK (g : Nat → Int32 → US → Option US) (v0 : Nat) (d : Int32) (K : US → Option US) (r : Int32) (w : US) : Option US := oB (fX5_passes r w) fun _ u1 => oV (GX6_readSum g v0 d u1) fun u2 => oV (fX6_emit v0 r u2) fun u3 => K u3
def cmpL (g : Nat → Int32 → US → Option US) (v0 : Nat) (d : Int32) : Nat → Int32 → US → Option US
  | 0, _, w => some w
  | f + 1, x, w => if x = 40 then some w else oB (fX5_peek w) fun r u2 => (if r = 60 then cmpK g v0 d (cmpL g v0 d f (x + 1)) r u2 else (if r = 62 then cmpK g v0 d (cmpL g v0 d f (x + 1)) r u2 else (if r = 61 then cmpK g v0 d (cmpL g v0 d f (x + 1)) r u2 else some u2)))
theorem cmp_c (ht : Tok n mo c) (hM : min n mo ≤ 40) {g : Nat → Int32 → US → Option US} {pc : Nat → RuR} {v0 d : Nat} (hv : IsV v0) (hd : d ≤ 4) (hpc : ∀ q, q ≤ min n mo → Gd (min n mo) q (pc q)) (hg : d < 4 → ∀ (q : Nat) (L : List Int32) (w : US), q ≤ min n mo → Rc n mo c q true w → Cd v0 L w → L.length ≤ q → CR n mo c v0 L (pc q) w (g v0 (nI (d + 1)) w)) {L : List Int32} (h : Rc n mo c p true u) (hL : Cd v0 L u) (hl : L.length ≤ p) (hp : p ≤ min n mo) : CR n mo c v0 L (cpR n mo c pc d p) u (GX6_readComparison g v0 (nI d) u) := by
  obtain ⟨w, e1, r1, f1, n1, c1⟩ := sum_c ht hM hv hd hpc hg h hL hl hp
  unfold GX6_readComparison
  rw [gd_t (isV_r hv), e1, oVs]
  have key := chn_c (u := u) (ix := 3) (bs := 2000) ht hM hv (Or.inl ⟨rfl, rfl⟩) (fun x => GX6_readSum g v0 (nI d) x) (fun q hq => sm_gd (d := d) hpc hq) (fun q L w hq hr hc hl => sum_c ht hM hv hd hpc hg hr hc hl hq) (fun f x w => cmpL g v0 (nI d) f x w) (fun f w => if_pos rfl) (fun f i q ok w hi hr ho => ?_) (fun f i q j w hi hr ho => ?_) hl 1 39 2 _ w (by omega) (by omega) (sm_gd hpc hp) r1 f1 n1 c1
  · rw [cmpL, if_neg (show ¬ nI 39 = 40 by decide)] at key
    exact key
  · have hne : ¬ nI i = 40 := fun x => by have := congrArg Int32.toInt x; rw [nI_toInt (by omega)] at this; have h4 : (40 : Int32).toInt = 40 := rfl; omega
    rw [cmpL, if_neg hne, peek_c ht hr, oBs]
    cases ok with
    | false => rw [pk_f, if_neg (by decide), if_neg (by decide), if_neg (by decide)]
    | true =>
      have ho' := ho.resolve_left (by decide)
      rw [if_neg (show ¬ pkV n mo c q true = 60 from pk_ne2 ht (s := 60) (by decide) (fun w => ((ix3 _ (ht.2.2 q (by omega))).1 (am_no ho' w)).1)), if_neg (show ¬ pkV n mo c q true = 62 from pk_ne2 ht (s := 62) (by decide) (fun w => ((ix3 _ (ht.2.2 q (by omega))).1 (am_no ho' w)).2.1)), if_neg (show ¬ pkV n mo c q true = 61 from pk_ne2 ht (s := 61) (by decide) (fun w => ((ix3 _ (ht.2.2 q (by omega))).1 (am_no ho' w)).2.2))]
  · have hne : ¬ nI i = 40 := fun x => by have := congrArg Int32.toInt x; rw [nI_toInt (by omega)] at this; have h4 : (40 : Int32).toInt = 40 := rfl; omega
    have hq := am_p ho
    rw [cmpL, if_neg hne, peek_c ht hr, oBs, pk_y hq]
    rcases (ix3 _ (ht.2.2 q (by omega))).2 (am_so ho) with w | w | w
    · rw [w, if_pos (show nI 60 = 60 from rfl)]; rfl
    · rw [w, if_neg (show ¬ nI 62 = 60 by decide), if_pos (show nI 62 = 62 from rfl)]; rfl
    · rw [w, if_neg (show ¬ nI 61 = 60 by decide), if_neg (show ¬ nI 61 = 62 by decide), if_pos (show nI 61 = 61 from rfl)]; rfl
/-- the class reads a rule: j levels are left on its side, k in the pure reading -/
theorem rul_c (ht : Tok n mo c) (hM : min n mo ≤ 40) {v0 : Nat} (hv : IsV v0) : ∀ (k j d : Nat), d + k = 5 → k ≤ j → 0 < k → ∀ (p : Nat) (L : List Int32) (u : US), p ≤ min n mo → Rc n mo c p true u → Cd v0 L u → L.length ≤ p → CR n mo c v0 L (ruR n mo c k d p) u (fX6_readComparison j v0 (nI d) u)
  | 0, _, _, _, _, h0 => absurd h0 (Nat.lt_irrefl 0)
  | k + 1, j, d, hd, hj, _ => fun p L u hp h hL hl => by
    obtain ⟨j, rfl⟩ : ∃ j', j = j' + 1 := ⟨j - 1, (by omega)⟩
    show CR n mo c v0 L (cpR n mo c (ruR n mo c k (d + 1)) d p) u (GX6_readComparison (fX6_readComparison j) v0 (nI d) u)
    exact cmp_c ht hM hv (by omega) (fun q hq => ru_gd k (d + 1) q hq) (fun hd4 q L w hq hr hc hl => rul_c ht hM hv k j (d + 1) (by omega) (by omega) (by omega) q L w hq hr hc hl) h hL hl hp
/-! rule: the model reads -/
abbrev FRm (u v : US) : Prop := Fm [(47, 19), (47, 21), (47, 27)] [60] [] u v
/-- the codes written so far -/
def Md (L : List Int32) (u : US) : Prop := gI u 47 27 = nI L.length ∧ L.length ≤ 80 ∧ codL (u.2.1 60) L.length = L
theorem Md.fd {L : List Int32} (h : Md L u) (f : Fdm u v) : Md L v := ⟨(f.i 47 27 rfl).trans h.1, h.2.1, by rw [f.a 60 rfl]; exact h.2.2⟩
/-- how many codes stand, never more than signs read -/
def Mn (q : Nat) (u : US) : Prop := ∃ a : Nat, a ≤ q ∧ gI u 47 27 = nI a
theorem codes_m {L : List Int32} (h : Md L u) (hl : L.length < 80) (x : Int32) (hr : Rm n mo c p u) : ∃ v, fX12_codes x u = some v ∧ Md (L ++ [x]) v ∧ Rm n mo c p v ∧ gI v 47 21 = gI u 47 21 ∧ FRm u v := by
  obtain ⟨h1, h2, h3⟩ := h
  have i1 := inb_nI hl (show 80 < 2 ^ 31 by decide)
  unfold fX12_codes
  rw [h1, gd_t i1, nxs, nxs]
  refine ⟨_, rfl, ⟨?_, ?_, ?_⟩, ?_, rfl, (Fm.rf.sA rfl).sI rfl⟩
  · show gI u 47 27 + 1 = _
    rw [h1, nI_1, List.length_append]; rfl
  · rw [List.length_append]; exact hl
  · show codL (upd (u.2.1 60) (nI L.length).toNatClampNeg x) (L ++ [x]).length = _
    rw [nI_clamp (by omega), List.length_append]; exact cod_upd h3
  · exact hr.fm (a := [(47, 27)]) (b := [60]) (d := []) ((Fm.rf.sA rfl).sI rfl) rfl rfl
theorem codes_n {q : Nat} (h : Mn q u) (hq : q < 80) (x : Int32) (hr : Rm n mo c p u) : ∃ v, fX12_codes x u = some v ∧ Mn (q + 1) v ∧ Rm n mo c p v ∧ gI v 47 21 = gI u 47 21 ∧ FRm u v := by
  obtain ⟨a, h1, h2⟩ := h
  have i1 := inb_nI (show a < 80 by omega) (show 80 < 2 ^ 31 by decide)
  unfold fX12_codes
  rw [h2, gd_t i1, nxs, nxs]
  refine ⟨_, rfl, ⟨a + 1, (by omega), ?_⟩, ?_, rfl, (Fm.rf.sA rfl).sI rfl⟩
  · show gI u 47 27 + 1 = _
    rw [h2, nI_1]
  · exact hr.fm (a := [(47, 27)]) (b := [60]) (d := []) ((Fm.rf.sA rfl).sI rfl) rfl rfl
/-- what the model has after a reading -/
def MR (n mo : Nat) (c : Nat → Nat) (p : Nat) (L : List Int32) (r : RuR) (u : US) (o : Option (Int32 × US)) : Prop := ∃ v, o = some (bI r.2.1, v) ∧ Rm n mo c r.1 v ∧ FRm u v ∧ Mn (r.1 + L.length - p) v ∧ (r.2.1 = true → Md (L ++ r.2.2.2) v ∧ gI v 47 21 = gI u 47 21)
theorem Mn.fd {q : Nat} (h : Mn q u) (f : Fdm u v) : Mn q v := by
  obtain ⟨a, h1, h2⟩ := h
  exact ⟨a, h1, (f.i 47 27 rfl).trans h2⟩
theorem Mn.mono {q q' : Nat} (h : Mn q u) (hq : q ≤ q') : Mn q' u := by
  obtain ⟨a, h1, h2⟩ := h
  exact ⟨a, (by omega), h2⟩
theorem Md.mn {L : List Int32} {q : Nat} (h : Md L u) (hl : L.length ≤ q) : Mn q u := ⟨_, hl, h.1⟩
theorem num3_m (ht : Tok n mo c) (h : Rm n mo c p u) (hd : isd n mo c p = true) : ∃ v, fX12_number 3 u = some (nI (nuV c p (nuL n mo c p)), v) ∧ Rm n mo c (p + nuL n mo c p) v ∧ Fdm u v := by
  have step : ∀ (f k : Nat) (w : US), k < 3 → Rm n mo c (p + k) w → Fdm u w → isd n mo c (p + k) = true → ∃ w', fX12_number_13 3 (f + 1) (nI (nuV c p k)) (nI k) w = fX12_number_13 3 f (nI (nuV c p (k + 1))) (nI (k + 1)) w' ∧ Rm n mo c (p + (k + 1)) w' ∧ Fdm u w' := by
    intro f k w hk hr hf hi
    obtain ⟨a0, a1, a2⟩ := isd_hp hi
    have hn := ht.1
    have ip := inb_nI (show p + k < 80 by omega) (show 80 < 2 ^ 31 by decide)
    have e19 : gI w 47 19 = nI (p + k) := hr.2.1
    refine ⟨sI w 47 19 (nI (p + (k + 1))), ?_, ⟨hr.1, rfl, a0⟩, hf.sI rfl⟩
    have eA : gA w 57 (nI (p + k)) = nI (c (p + k)) := by
      show w.2.1 57 (nI (p + k)).toNatClampNeg = _
      rw [nI_clamp (by omega)]; exact hr.1.1 (p + k) (by omega)
    rw [fX12_number_13, if_neg (show ¬ (3 : Int32) ≤ nI k from nI_ge (b := 3) hk (by omega)), isDig_m ht hr, oBs, show (sgO n mo c 48 10 (p + k)).isSome = true from hi, if_neg (show ¬ bI true = 0 by decide), e19, gd_t ip, nxs, nI_1, nI_1, eA, show (10 : Int32) = nI 10 from rfl, pk_mul, nI_add, show (48 : Int32) = nI 48 from rfl, pk_sub (show 48 ≤ 10 * nuV c p k + c (p + k) by omega), show 10 * nuV c p k + c (p + k) - 48 = nuV c p (k + 1) from by show _ = nuV c p k * 10 + (c (p + k) - 48); omega]; rfl
  have stop : ∀ (f k : Nat) (w : US), k ≤ 3 → Rm n mo c (p + k) w → (k = 3 ∨ isd n mo c (p + k) = false) → fX12_number_13 3 (f + 1) (nI (nuV c p k)) (nI k) w = some (nI (nuV c p k), w) := by
    intro f k w hk hr hi
    rw [fX12_number_13]
    by_cases q : k = 3
    · rw [if_pos (show (3 : Int32) ≤ nI k by rw [q]; decide)]
    · rw [if_neg (show ¬ (3 : Int32) ≤ nI k from nI_ge (b := 3) (by omega) (by omega)), isDig_m ht hr, oBs, show (sgO n mo c 48 10 (p + k)).isSome = false from hi.resolve_left q, if_pos (show bI false = 0 from rfl)]
  unfold fX12_number
  rw [isDig_m ht h, oBs, show (sgO n mo c 48 10 p).isSome = true from hd, if_neg (show ¬ bI true = 0 by decide), show FU = 4092 + 1 + 1 + 1 + 1 from rfl]
  obtain ⟨w1, e1, r1, f1⟩ := step (4092 + 1 + 1 + 1) 0 u (by omega) h Fm.rf hd
  rw [show fX12_number_13 3 (4092 + 1 + 1 + 1 + 1) 0 0 u = fX12_number_13 3 (4092 + 1 + 1 + 1 + 1) (nI (nuV c p 0)) (nI 0) u from rfl, e1]
  unfold nuL
  cases q1 : isd n mo c (p + 1) with
  | false => rw [if_neg (by decide)]; exact ⟨w1, stop _ 1 w1 (by omega) r1 (Or.inr q1), r1, f1⟩
  | true =>
    rw [if_pos rfl]
    obtain ⟨w2, e2, r2, f2⟩ := step (4092 + 1 + 1) 1 w1 (by omega) r1 f1 q1
    rw [e2]
    cases q2 : isd n mo c (p + 2) with
    | false => rw [if_neg (by decide)]; exact ⟨w2, stop _ 2 w2 (by omega) r2 (Or.inr q2), r2, f2⟩
    | true =>
      rw [if_pos rfl]
      obtain ⟨w3, e3, r3, f3⟩ := step (4092 + 1) 2 w2 (by omega) r2 f2 q2
      rw [e3]
      exact ⟨w3, stop _ 3 w3 (by omega) r3 (Or.inl rfl), r3, f3⟩
/-- a term that begins with no minus -/
theorem opd_m (ht : Tok n mo c) (hM : min n mo ≤ 40) {gR : Int32 → US → Option (Int32 × US)} {gT : US → Option (Int32 × US)} {pc : Nat → RuR} {d : Nat} (hd : d ≤ 4) (hpc : ∀ q, q ≤ min n mo → Gd (min n mo) q (pc q)) (hg : d < 4 → ∀ (q : Nat) (L : List Int32) (w : US), p < q → q ≤ min n mo → Rm n mo c q w → Md L w → L.length ≤ q → gI w 47 21 = nI (d + 1) → MR n mo c q L (pc q) w (gR 0 w)) {L : List Int32} (h : Rm n mo c p u) (hL : Md L u) (hl : L.length ≤ p) (h21 : gI u 47 21 = nI d) (hno : htB n mo c p 45 = false) : MR n mo c p L (opR n mo c pc d p) u (GX12_readsTerm gR gT u) := by
  obtain ⟨v1, e1, r1, f1⟩ := tsign_m ht h (s := 45) (by decide)
  rw [hno] at e1 r1
  rw [if_neg (by decide)] at r1
  have hp : p ≤ min n mo := h.2.2
  unfold GX12_readsTerm
  rw [show (45 : Int32) = nI 45 from rfl, e1, oBs, if_pos (show bI false = 0 from rfl), isDig_m ht r1, oBs]
  unfold opR
  have d40 : isd n mo c p = true → htB n mo c p 40 = false := fun w => by
    obtain ⟨_, a1, a2⟩ := isd_hp w
    unfold htB
    rw [decide_eq_false (show ¬ c p = 40 by omega), Bool.and_false]
  cases q2 : isd n mo c p with
  | true =>
    rw [d40 q2, if_neg (by decide), if_pos rfl, show (sgO n mo c 48 10 p).isSome = true from q2, if_neg (show ¬ bI true = 0 by decide)]
    obtain ⟨a1, a2, a3, a4⟩ := nu_hp q2
    obtain ⟨v2, e2, r2, f2⟩ := num3_m ht r1 q2
    obtain ⟨v3, e3, c3, r3, t3, f3⟩ := codes_m ((hL.fd f1).fd f2) (by omega) (nI (nuV c p (nuL n mo c p))) r2
    rw [e2, oBs, e3, oVs]
    refine ⟨v3, rfl, r3, ((f1.mono rfl rfl rfl).trans (f2.mono rfl rfl rfl)).trans f3, c3.mn ?_, fun _ => ⟨c3, ?_⟩⟩
    · rw [List.length_append]
      show L.length + 1 ≤ p + nuL n mo c p + L.length - p
      omega
    · rw [t3, show gI v2 47 21 = gI v1 47 21 from f2.i 47 21 rfl]; exact f1.i 47 21 rfl
  | false =>
    obtain ⟨v2, e2, r2, f2⟩ := takes_m ht r1 (j := 2) (by decide)
    have f12 : FRm u v2 := (f1.mono rfl rfl rfl).trans (f2.mono rfl rfl rfl)
    have L2 : Md L v2 := (hL.fd f1).fd f2
    have t2 : gI v2 47 21 = nI d := (f2.i 47 21 rfl).trans ((f1.i 47 21 rfl).trans h21)
    rw [if_neg (show ¬ false = true by decide), show (sgO n mo c 48 10 p).isSome = false from q2, if_pos (show bI false = 0 from rfl), show fX12_takesOf 102 v1 = fX12_takesOf (100 + 2) v1 from rfl, e2, oBs]
    cases ho : amO n mo c 2 p with
    | some j =>
      have hpl := am_p ho
      have hj : j < 6 := by
        have ho' := ho
        unfold amO at ho'
        rw [if_pos hpl] at ho'
        exact (fs_lt ho').1
      have h40 : htB n mo c p 40 = false := by
        cases w : htB n mo c p 40 with
        | false => rfl
        | true =>
          have := am_so ho
          rw [ht_eq w] at this
          exact absurd this (by decide)
      rw [ho] at r2
      rw [h40, if_neg (show ¬ false = true by decide), if_neg (show ¬ hV (some j) < 0 from nI_pos (n := j) (by omega)), show (1000 : Int32) + hV (some j) = nI (1000 + j) from nI_add 1000 j]
      obtain ⟨v3, e3, c3, r3, t3, f3⟩ := codes_m L2 (by omega) (nI (1000 + j)) r2
      rw [e3, oVs]
      refine ⟨v3, rfl, r3, f12.trans f3, c3.mn ?_, fun _ => ⟨c3, ?_⟩⟩
      · rw [List.length_append]
        show L.length + 1 ≤ p + 1 + L.length - p
        omega
      · rw [t3, t2, h21]
    | none =>
      rw [ho] at r2
      have r2' : Rm n mo c p v2 := r2
      rw [if_pos hV_neg, t2]
      by_cases q4 : d = 4
      · subst q4
        rw [if_pos (show nI 4 = 4 from rfl)]
        cases w : htB n mo c p 40 with
        | true => rw [if_pos rfl, if_pos (Nat.le_refl 4)]; exact ⟨v2, rfl, r2', f12, L2.mn (show L.length ≤ p + L.length - p by omega), fun h => by cases h⟩
        | false => rw [if_neg (by decide)]; exact ⟨v2, rfl, r2', f12, L2.mn (show L.length ≤ p + L.length - p by omega), fun h => by cases h⟩
      · obtain ⟨v3, e3, r3, f3⟩ := tsign_m ht r2' (s := 40) (by decide)
        rw [if_neg (show ¬ nI d = 4 from fun x => by have := congrArg Int32.toInt x; rw [nI_toInt (by omega)] at this; have h4 : (4 : Int32).toInt = 4 := rfl; omega), show (40 : Int32) = nI 40 from rfl, e3, oBs]
        cases w : htB n mo c p 40 with
        | false =>
          rw [w, if_neg (show ¬ false = true by decide)] at r3
          rw [if_pos (show bI false = 0 from rfl), if_neg (show ¬ false = true by decide)]
          exact ⟨v3, rfl, r3, f12.trans (f3.mono rfl rfl rfl), (L2.fd f3).mn (show L.length ≤ p + L.length - p by omega), fun h => by cases h⟩
        | true =>
          have hpl := ht_lt w
          rw [w, if_pos rfl] at r3
          rw [if_neg (show ¬ bI true = 0 by decide), if_pos rfl, if_neg (show ¬ 4 ≤ d by omega), nxs, show gI v3 47 21 = nI d from (f3.i 47 21 rfl).trans t2, nI_1]
          obtain ⟨y, hy⟩ : ∃ y, y = sI v3 47 21 (nI (d + 1)) := ⟨_, rfl⟩
          have ry : Rm n mo c (p + 1) y := by rw [hy]; exact r3.fm (a := [(47, 21)]) (b := []) (d := []) (Fm.rf.sI rfl) rfl rfl
          have Ly : Md L y := by rw [hy]; exact (show Md L v3 from L2.fd f3)
          have fy : FRm u y := by rw [hy]; exact (f12.trans (f3.mono rfl rfl rfl)).sI rfl
          have ty : gI y 47 21 = nI (d + 1) := by rw [hy]; rfl
          obtain ⟨v4, e4, r4, f4, n4, c4⟩ := hg (by omega) (p + 1) L y (by omega) hpl ry Ly (by omega) ty
          rw [← hy, e4, oBs]
          cases hb : (pc (p + 1)).2.1 with
          | false =>
            rw [if_pos (show bI false = 0 from rfl), Bool.false_and, if_neg (show ¬ false = true by decide)]
            exact ⟨v4, rfl, r4, fy.trans f4, n4.mono (show (pc (p + 1)).1 + L.length - (p + 1) ≤ (pc (p + 1)).1 + L.length - p by omega), fun h => by cases h⟩
          | true =>
            obtain ⟨m4, t4⟩ := c4 hb
            obtain ⟨v5, e5, r5, f5⟩ := tsign_m ht r4 (s := 41) (by decide)
            rw [if_neg (show ¬ bI true = 0 by decide), Bool.true_and, show (41 : Int32) = nI 41 from rfl, e5, oBs]
            cases w2 : htB n mo c (pc (p + 1)).1 41 with
            | false =>
              rw [w2, if_neg (show ¬ false = true by decide)] at r5
              rw [if_pos (show bI false = 0 from rfl), if_neg (show ¬ false = true by decide)]
              exact ⟨v5, rfl, r5, (fy.trans f4).trans (f5.mono rfl rfl rfl), (n4.fd f5).mono (show (pc (p + 1)).1 + L.length - (p + 1) ≤ (pc (p + 1)).1 + L.length - p by omega), fun h => by cases h⟩
            | true =>
              rw [w2, if_pos rfl] at r5
              rw [if_neg (show ¬ bI true = 0 by decide), if_pos rfl, nxs]
              refine ⟨_, rfl, ?_, ((fy.trans f4).trans (f5.mono rfl rfl rfl)).sI rfl, ?_, fun _ => ⟨?_, ?_⟩⟩
              · exact r5.fm (a := [(47, 21)]) (b := []) (d := []) (Fm.rf.sI rfl) rfl rfl
              · obtain ⟨a, a1, a2⟩ := n4.fd f5
                exact ⟨a, by
                  show a ≤ (pc (p + 1)).1 + 1 + L.length - p
                  omega, a2⟩
              · exact (show Md (L ++ (pc (p + 1)).2.2.2) v5 from m4.fd f5)
              · show gI v5 47 21 - 1 = _
                rw [show gI v5 47 21 = nI (d + 1) from (f5.i 47 21 rfl).trans (t4.trans ty), h21, show (1 : Int32) = nI 1 from rfl, pk_sub (show 1 ≤ d + 1 by omega)]; rfl
/-- how many minus signs stand doesn't hang on the fuel -/
theorem mn_ir : ∀ (f g q : Nat), min n mo - q ≤ f → min n mo - q ≤ g → mnN n mo c f q = mnN n mo c g q
  | 0, 0, _, _, _ => rfl
  | 0, g + 1, q, h, _ => by
    have : htB n mo c q 45 = false := by unfold htB; rw [decide_eq_false (show ¬ q < min n mo by omega)]; rfl
    rw [mnN, mnN, this, if_neg (by decide)]
  | f + 1, 0, q, _, h => by
    have : htB n mo c q 45 = false := by unfold htB; rw [decide_eq_false (show ¬ q < min n mo by omega)]; rfl
    rw [mnN, mnN, this, if_neg (by decide)]
  | f + 1, g + 1, q, h1, h2 => by
    rw [mnN, mnN, mn_ir f g (q + 1) (by omega) (by omega)]
theorem mn_y (hM : min n mo ≤ 40) (h : htB n mo c p 45 = true) : mnN n mo c 40 p = mnN n mo c 40 (p + 1) + 1 := by
  have := ht_lt h
  rw [show (40 : Nat) = 39 + 1 from rfl, mnN, if_pos h, mn_ir 39 40 (p + 1) (by omega) (by omega)]
theorem mn_n (h : htB n mo c p 45 = false) : mnN n mo c 40 p = 0 := by
  rw [show (40 : Nat) = 39 + 1 from rfl, mnN, h, if_neg (by decide)]
theorem isB_b (b : Bool) : isB (bI b) = true := by cases b <;> rfl
/-- a term: j levels are left -/
theorem trm_m (ht : Tok n mo c) (hM : min n mo ≤ 40) {pc : Nat → RuR} {d : Nat} (hd : d ≤ 4) (hpc : ∀ q, q ≤ min n mo → Gd (min n mo) q (pc q)) (hg : d < 4 → ∀ (q j : Nat) (L : List Int32) (w : US), q ≤ min n mo → 5 * (4 - d) + (40 - q) ≤ j → Rm n mo c q w → Md L w → L.length ≤ q → gI w 47 21 = nI (d + 1) → MR n mo c q L (pc q) w ((FX12_readsRank j).1 0 w)) : ∀ (j p : Nat) (L : List Int32) (u : US), p ≤ min n mo → 5 * (4 - d) + (40 - p) + 1 ≤ j → Rm n mo c p u → Md L u → L.length ≤ p → gI u 47 21 = nI d → MR n mo c p L (ngR n mo c pc d p) u ((FX12_readsRank j).2 u)
  | 0, p, L, u, hp, hj, h, hL, hl, h21 => by omega
  | j + 1, p, L, u, hp, hj, h, hL, hl, h21 => by
    show MR n mo c p L (ngR n mo c pc d p) u (GX12_readsTerm (FX12_readsRank j).1 (FX12_readsRank j).2 u)
    cases hm : htB n mo c p 45 with
    | false =>
      have := opd_m ht hM hd hpc (gR := (FX12_readsRank j).1) (gT := (FX12_readsRank j).2) (fun h4 q L w h1 h2 h3 h5 h6 h7 => hg h4 q j L w h2 (by omega) h3 h5 h6 h7) h hL hl h21 hm
      unfold ngR
      rw [mn_n hm, List.replicate_zero, List.append_nil, if_neg (show ¬ 0 % 2 = 1 by decide), List.append_nil]
      exact this
    | true =>
      have hpl := ht_lt hm
      obtain ⟨v1, e1, r1, f1⟩ := tsign_m ht h (s := 45) (by decide)
      rw [hm] at e1 r1
      rw [if_pos rfl] at r1
      obtain ⟨v2, e2, r2, f2, n2, c2⟩ := trm_m ht hM hd hpc hg j (p + 1) L v1 hpl (by omega) r1 (hL.fd f1) (by omega) ((f1.i 47 21 rfl).trans h21)
      obtain ⟨g1, g2, g3⟩ := ng_gd (c := c) (d := d) hpc hpl
      unfold GX12_readsTerm
      rw [show (45 : Int32) = nI 45 from rfl, e1, oBs, if_neg (show ¬ bI true = 0 by decide), e2, oBs]
      have em := mn_y hM hm
      have er : ngR n mo c pc d p = ((ngR n mo c pc d (p + 1)).1, (ngR n mo c pc d (p + 1)).2.1, (ngR n mo c pc d p).2.2.1, (ngR n mo c pc d (p + 1)).2.2.2 ++ [nI 3000]) := by
        unfold ngR
        rw [em, show p + (mnN n mo c 40 (p + 1) + 1) = p + 1 + mnN n mo c 40 (p + 1) by omega, List.replicate_succ', List.append_assoc]
      rw [er]
      generalize ngR n mo c pc d (p + 1) = r at *
      obtain ⟨a, a1, a2⟩ := n2
      cases hb : r.2.1 with
      | true =>
        obtain ⟨m2, t2⟩ := c2 hb
        obtain ⟨k1, k2, k3, k4, k5, k6⟩ := g3 hb
        obtain ⟨v3, e3, c3, r3, t3, f3⟩ := codes_m m2 (by rw [List.length_append]; omega) (nI 3000) r2
        rw [show (3000 : Int32) = nI 3000 from rfl, e3, oVs, gd_t (isB_b _)]
        refine ⟨v3, rfl, r3, ((f1.mono rfl rfl rfl).trans f2).trans f3, c3.mn ?_, fun _ => ⟨?_, ?_⟩⟩
        · rw [List.length_append, List.length_append]
          show L.length + r.2.2.2.length + 1 ≤ r.1 + L.length - p
          omega
        · show Md (L ++ (r.2.2.2 ++ [nI 3000])) v3
          rw [← List.append_assoc]; exact c3
        · rw [t3, t2]; exact f1.i 47 21 rfl
      | false =>
        obtain ⟨v3, e3, c3, r3, t3, f3⟩ := codes_n (q := r.1 + L.length - (p + 1)) ⟨a, a1, a2⟩ (by omega) (nI 3000) r2
        rw [show (3000 : Int32) = nI 3000 from rfl, e3, oVs, gd_t (isB_b _)]
        refine ⟨v3, rfl, r3, ((f1.mono rfl rfl rfl).trans f2).trans f3, c3.mono ?_, fun h => by cases h⟩
        show r.1 + L.length - (p + 1) + 1 ≤ r.1 + L.length - p
        omega
theorem ch_f {sub : Nat → RuR} {ix bs : Nat} {a : RuR} (h : a.2.1 = false) : ∀ k, chR n mo c sub ix bs k a = a
  | 0 => rfl
  | k + 1 => by rw [chR, h, if_neg (by decide)]
/-- the signs of a rank -/
def rkX (v1 : Nat) : Nat := if v1 = 0 then 3 else if v1 = 1 then 4 else 5
def rkB (v1 : Nat) : Nat := if v1 = 0 then 2000 else if v1 = 1 then 2003 else 2005
theorem rk_h {v1 : Nat} (h : v1 < 3) : (rkX v1 = 3 ∧ rkB v1 = 2000) ∨ (rkX v1 = 4 ∧ rkB v1 = 2003) ∨ (rkX v1 = 5 ∧ rkB v1 = 2005) := by
  rcases (show v1 = 0 ∨ v1 = 1 ∨ v1 = 2 by omega) with rfl | rfl | rfl
  · exact Or.inl ⟨rfl, rfl⟩
  · exact Or.inr (Or.inl ⟨rfl, rfl⟩)
  · exact Or.inr (Or.inr ⟨rfl, rfl⟩)
/-- one sign of a rank, and what stands behind it -/
theorem stp_m (ht : Tok n mo c) (hM : min n mo ≤ 40) {v1 d : Nat} (hv : v1 < 3) {sub : Nat → RuR} {gR : Int32 → US → Option (Int32 × US)} {gT : US → Option (Int32 × US)} (hgd : ∀ q, q ≤ min n mo → Gd (min n mo) q (sub q)) (hsub : ∀ (q : Nat) (L : List Int32) (w : US), p < q → q ≤ min n mo → Rm n mo c q w → Md L w → L.length ≤ q → gI w 47 21 = nI d → MR n mo c q L (sub q) w (gR (nI (v1 + 1)) w)) {L : List Int32} (hl : L.length ≤ p) (k : Nat) (K : Int32 → US → Option (Int32 × US)) (a : RuR) (w : US) (hg : Gd (min n mo) p a) (ha : a.2.1 = true) (hr : Rm n mo c a.1 w) (hf : FRm u w) (hc : Md (L ++ a.2.2.2) w) (h21 : gI w 47 21 = nI d) (hu : gI u 47 21 = nI d)
    (hK : ∀ (b : RuR) (w2 : US), a.1 < b.1 → Gd (min n mo) p b → b.2.1 = true → Rm n mo c b.1 w2 → FRm u w2 → Md (L ++ b.2.2.2) w2 → gI w2 47 21 = nI d → MR n mo c p L (chR n mo c sub (rkX v1) (rkB v1) k b) u (K (if v1 = 0 then 0 else 1) w2)) :
    MR n mo c p L (chR n mo c sub (rkX v1) (rkB v1) (k + 1) a) u (fX12_readsRank_53 gR gT (nI v1) K (100 + rkX v1) w) := by
  have hx : rkX v1 < 7 := by rcases rk_h hv with ⟨e, _⟩ | ⟨e, _⟩ | ⟨e, _⟩ <;> rw [e] <;> decide
  obtain ⟨g1, g2, g3⟩ := hg
  obtain ⟨k1, k2, k3, k4, k5, k6⟩ := g3 ha
  obtain ⟨v2, e2, r2, f2⟩ := takes_m ht hr (j := rkX v1) hx
  have t2 : gI v2 47 21 = nI d := (f2.i 47 21 rfl).trans h21
  unfold fX12_readsRank_53
  rw [e2, oBs, chR, ha, if_pos rfl]
  cases ho : amO n mo c (rkX v1) a.1 with
  | none =>
    rw [ho] at r2
    rw [if_neg (show ¬ (0 : Int32) ≤ hV none by decide)]
    refine ⟨v2, by rw [ha]; rfl, r2, hf.trans (f2.mono rfl rfl rfl), (hc.fd f2).mn ?_, fun _ => ⟨hc.fd f2, by rw [t2, hu]⟩⟩
    rw [List.length_append]
    show L.length + a.2.2.2.length ≤ a.1 + L.length - p
    omega
  | some j =>
    have hp := am_p ho
    have hj := am_lt hx ho
    rw [ho] at r2
    have r2' : Rm n mo c (a.1 + 1) v2 := r2
    rw [if_pos (show (0 : Int32) ≤ hV (some j) from nI_pos' (by omega)), nI_1]
    obtain ⟨v3, e3, r3, f3, n3, c3⟩ := hsub (a.1 + 1) (L ++ a.2.2.2) v2 (by omega) hp r2' (hc.fd f2) (by rw [List.length_append]; omega) t2
    have gb := hgd (a.1 + 1) hp
    have gj := jn_gd (b := sub (a.1 + 1)) (rk_h hv) ho ⟨g1, g2, g3⟩ ha gb
    have ff : FRm u v3 := (hf.trans (f2.mono rfl rfl rfl)).trans f3
    rw [e3, oBs]
    cases hb : (sub (a.1 + 1)).2.1 with
    | false =>
      rw [if_pos (show bI false = 0 from rfl)]
      show MR n mo c p L (chR n mo c sub (rkX v1) (rkB v1) k (jnR a (sub (a.1 + 1)) (nI (c a.1)) (nI (rkB v1 + j)))) u _
      rw [ch_f (show (jnR a (sub (a.1 + 1)) (nI (c a.1)) (nI (rkB v1 + j))).2.1 = false from hb)]
      refine ⟨v3, by rw [show (jnR a (sub (a.1 + 1)) (nI (c a.1)) (nI (rkB v1 + j))).2.1 = false from hb]; rfl, r3, ff, n3.mono ?_, fun h => ?_⟩
      · rw [List.length_append]
        show (sub (a.1 + 1)).1 + (L.length + a.2.2.2.length) - (a.1 + 1) ≤ (sub (a.1 + 1)).1 + L.length - p
        omega
      · exact absurd (show (sub (a.1 + 1)).2.1 = true from h) (by rw [hb]; decide)
    | true =>
      obtain ⟨l1, l2, l3, l4, l5, l6⟩ := gb.2.2 hb
      have gb1 := gb.1
      have gb2 := gb.2.1
      obtain ⟨m3, t3⟩ := c3 hb
      obtain ⟨v4, e4, c4, r4, t4, f4⟩ := codes_m m3 (by rw [List.length_append, List.length_append]; omega) (nI (rkB v1 + j)) r3
      have ev : (if v1 = 0 then fX12_readsRank_99 gR gT (nI v1) K (2000 + hV (some j)) 0 v3 else (if v1 = 1 then fX12_readsRank_99 gR gT (nI v1) K (2000 + hV (some j)) 3 v3 else fX12_readsRank_99 gR gT (nI v1) K (2000 + hV (some j)) 5 v3)) = K (if v1 = 0 then 0 else 1) v4 := by
        rw [show (2000 : Int32) + hV (some j) = nI (2000 + j) from nI_add 2000 j]
        rcases (show v1 = 0 ∨ v1 = 1 ∨ v1 = 2 by omega) with rfl | rfl | rfl
        · rw [if_pos rfl, if_pos rfl]
          unfold fX12_readsRank_99
          rw [show nI (2000 + j) + 0 = nI (rkB 0 + j) from nI_add (2000 + j) 0, e4, oVs]; rfl
        · rw [if_neg (by decide), if_pos rfl, if_neg (by decide)]
          unfold fX12_readsRank_99
          rw [show nI (2000 + j) + 3 = nI (rkB 1 + j) from (nI_add (2000 + j) 3).trans (by show nI (2000 + j + 3) = nI (2003 + j); congr 1; omega), e4, oVs]; rfl
        · rw [if_neg (by decide), if_neg (by decide), if_neg (by decide)]
          unfold fX12_readsRank_99
          rw [show nI (2000 + j) + 5 = nI (rkB 2 + j) from (nI_add (2000 + j) 5).trans (by show nI (2000 + j + 5) = nI (2005 + j); congr 1; omega), e4, oVs]; rfl
      have ew : (if nI v1 = 0 then fX12_readsRank_99 gR gT (nI v1) K (2000 + hV (some j)) 0 v3 else (if nI v1 = 1 then fX12_readsRank_99 gR gT (nI v1) K (2000 + hV (some j)) 3 v3 else fX12_readsRank_99 gR gT (nI v1) K (2000 + hV (some j)) 5 v3)) = K (if v1 = 0 then 0 else 1) v4 := by
        rw [← ev]
        rcases (show v1 = 0 ∨ v1 = 1 ∨ v1 = 2 by omega) with rfl | rfl | rfl <;> rfl
      rw [if_neg (show ¬ bI true = 0 by decide), ew]
      refine hK (jnR a (sub (a.1 + 1)) (nI (c a.1)) (nI (rkB v1 + j))) v4 ?_ gj hb r4 (ff.trans f4) ?_ ?_
      · show a.1 < (sub (a.1 + 1)).1
        omega
      · show Md (L ++ (a.2.2.2 ++ (sub (a.1 + 1)).2.2.2 ++ [nI (rkB v1 + j)])) v4
        rw [← List.append_assoc, ← List.append_assoc]; exact c4
      · rw [t4, t3, t2]
theorem r24_m {v1 f : Nat} (hv : v1 < 3) {gR : Int32 → US → Option (Int32 × US)} {gT : US → Option (Int32 × US)} {w : US} : fX12_readsRank_24 gR gT (nI v1) (f + 1) 1 w = fX12_readsRank_53 gR gT (nI v1) (fX12_readsRank_24 gR gT (nI v1) f) (100 + rkX v1) w := by
  rw [fX12_readsRank_24, if_neg (by decide)]
  rcases (show v1 = 0 ∨ v1 = 1 ∨ v1 = 2 by omega) with rfl | rfl | rfl
  · rw [if_pos (show nI 0 = 0 from rfl)]; rfl
  · rw [if_neg (by decide), if_pos (show nI 1 = 1 from rfl)]; rfl
  · rw [if_neg (by decide), if_neg (by decide)]; rfl
theorem chn_m (ht : Tok n mo c) (hM : min n mo ≤ 40) {v1 d : Nat} (hv : v1 < 3) (hv0 : 0 < v1) {sub : Nat → RuR} {gR : Int32 → US → Option (Int32 × US)} {gT : US → Option (Int32 × US)} (hgd : ∀ q, q ≤ min n mo → Gd (min n mo) q (sub q)) (hsub : ∀ (q : Nat) (L : List Int32) (w : US), p < q → q ≤ min n mo → Rm n mo c q w → Md L w → L.length ≤ q → gI w 47 21 = nI d → MR n mo c q L (sub q) w (gR (nI (v1 + 1)) w)) {L : List Int32} (hl : L.length ≤ p) (hu : gI u 47 21 = nI d) : ∀ (k f : Nat) (a : RuR) (w : US), min n mo - a.1 < k → k < f → Gd (min n mo) p a → a.2.1 = true → Rm n mo c a.1 w → FRm u w → Md (L ++ a.2.2.2) w → gI w 47 21 = nI d → MR n mo c p L (chR n mo c sub (rkX v1) (rkB v1) k a) u (fX12_readsRank_24 gR gT (nI v1) f 1 w)
  | 0, f, a, w, h0, _, _, _, _, _, _, _ => by omega
  | k + 1, f, a, w, hk, hf, hg, ha, hr, hfr, hc, h21 => by
    obtain ⟨f, rfl⟩ : ∃ f', f = f' + 1 := ⟨f - 1, (by omega)⟩
    rw [r24_m hv]
    refine stp_m ht hM hv hgd hsub hl k _ a w hg ha hr hfr hc h21 hu (fun b w2 h1 h2 h3 h4 h5 h6 h7 => ?_)
    rw [if_neg (show ¬ v1 = 0 by omega)]
    exact chn_m ht hM hv hv0 hgd hsub hl hu k f b w2 (by have := h2.2.1; omega) (by omega) h2 h3 h4 h5 h6 h7
def rkK (v1 : Nat) : Nat := if v1 = 0 then 1 else 40
theorem rnk_m (ht : Tok n mo c) (hM : min n mo ≤ 40) {v1 d : Nat} (hv : v1 < 3) {sub : Nat → RuR} {gR : Int32 → US → Option (Int32 × US)} {gT : US → Option (Int32 × US)} (hgd : ∀ q, q ≤ min n mo → Gd (min n mo) q (sub q)) (hsub : ∀ (q : Nat) (L : List Int32) (w : US), p ≤ q → q ≤ min n mo → Rm n mo c q w → Md L w → L.length ≤ q → gI w 47 21 = nI d → MR n mo c q L (sub q) w (gR (nI (v1 + 1)) w)) {L : List Int32} (hp : p ≤ min n mo) (h : Rm n mo c p u) (hL : Md L u) (hl : L.length ≤ p) (hu : gI u 47 21 = nI d) : MR n mo c p L (chR n mo c sub (rkX v1) (rkB v1) (rkK v1) (sub p)) u (GX12_readsRank gR gT (nI v1) u) := by
  obtain ⟨w, e1, r1, f1, n1, c1⟩ := hsub p L u (Nat.le_refl _) hp h hL hl hu
  have gs := hgd p hp
  unfold GX12_readsRank
  rw [if_neg (show ¬ nI v1 = 3 from fun x => by have := congrArg Int32.toInt x; rw [nI_toInt (by omega)] at this; have h4 : (3 : Int32).toInt = 3 := rfl; omega), nI_1, e1, oBs]
  cases hb : (sub p).2.1 with
  | false =>
    rw [if_pos (show bI false = 0 from rfl), ch_f hb]
    exact ⟨w, by rw [hb]; rfl, r1, f1, n1, fun h => by rw [hb] at h; cases h⟩
  | true =>
    obtain ⟨m1, t1⟩ := c1 hb
    obtain ⟨k1, k2, k3, k4, k5, k6⟩ := gs.2.2 hb
    have := gs.2.1
    rw [if_neg (show ¬ bI true = 0 by decide)]
    by_cases q : v1 = 0
    · subst q
      rw [FU_s, r24_m hv]
      refine stp_m ht hM hv hgd (fun q L w h1 => hsub q L w (Nat.le_of_lt h1)) hl 0 _ (sub p) w gs hb r1 f1 m1 (t1.trans hu) hu (fun b w2 h1 h2 h3 h4 h5 h6 h7 => ?_)
      rw [if_pos rfl, show (4095 : Nat) = 4094 + 1 from rfl, fX12_readsRank_24, if_pos rfl, chR]
      refine ⟨w2, by rw [h3]; rfl, h4, h5, h6.mn ?_, fun _ => ⟨h6, by rw [h7, hu]⟩⟩
      obtain ⟨b1, b2, b3⟩ := h2
      obtain ⟨j1, j2, j3, j4, j5, j6⟩ := b3 h3
      rw [List.length_append]; omega
    · rw [show rkK v1 = 40 from if_neg q]
      exact chn_m ht hM hv (by omega) hgd (fun q L w h1 => hsub q L w (Nat.le_of_lt h1)) hl hu 40 FU (sub p) w (by omega) (by decide) gs hb r1 f1 m1 (t1.trans hu)
/-- the model reads a rule -/
theorem rul_m (ht : Tok n mo c) (hM : min n mo ≤ 40) : ∀ (k d : Nat), d + k = 5 → 0 < k → ∀ (j p : Nat) (L : List Int32) (u : US), p ≤ min n mo → 5 * (4 - d) + (40 - p) + 5 ≤ j → Rm n mo c p u → Md L u → L.length ≤ p → gI u 47 21 = nI d → MR n mo c p L (ruR n mo c k d p) u ((FX12_readsRank j).1 0 u)
  | 0, _, _, h0 => absurd h0 (Nat.lt_irrefl 0)
  | k + 1, d, hd, _ => fun j p L u hp hj h hL hl h21 => by
    have hpc : ∀ q, q ≤ min n mo → Gd (min n mo) q (ruR n mo c k (d + 1) q) := fun q hq => ru_gd k (d + 1) q hq
    have t : ∀ (j p : Nat) (L : List Int32) (u : US), p ≤ min n mo → 5 * (4 - d) + (40 - p) + 1 ≤ j → Rm n mo c p u → Md L u → L.length ≤ p → gI u 47 21 = nI d → MR n mo c p L (ngR n mo c (ruR n mo c k (d + 1)) d p) u ((FX12_readsRank j).2 u) := trm_m ht hM (by omega) hpc (fun h4 q j L w h1 h2 h3 h5 h6 h7 => rul_m ht hM k (d + 1) (by omega) (by omega) j q L w h1 (by omega) h3 h5 h6 h7)
    obtain ⟨j, rfl⟩ : ∃ j', j = j' + 1 + 1 + 1 + 1 := ⟨j - 4, (by omega)⟩
    have r3 : ∀ (q : Nat) (L : List Int32) (w : US), p ≤ q → q ≤ min n mo → Rm n mo c q w → Md L w → L.length ≤ q → gI w 47 21 = nI d → MR n mo c q L (ngR n mo c (ruR n mo c k (d + 1)) d q) w ((FX12_readsRank (j + 1)).1 (nI (2 + 1)) w) := fun q L w h1 h2 h3 h4 h5 h6 => by
      obtain ⟨v, e1, a1, a2, a3, a4⟩ := t j q L w h2 (by omega) h3 h4 h5 h6
      refine ⟨v, ?_, a1, a2, a3, a4⟩
      show GX12_readsRank (FX12_readsRank j).1 (FX12_readsRank j).2 (nI (2 + 1)) w = _
      unfold GX12_readsRank
      rw [if_pos (show nI (2 + 1) = 3 from rfl), e1, oBs, gd_t (isB_b _)]
    have r2 : ∀ (q : Nat) (L : List Int32) (w : US), p ≤ q → q ≤ min n mo → Rm n mo c q w → Md L w → L.length ≤ q → gI w 47 21 = nI d → MR n mo c q L (pdR n mo c (ruR n mo c k (d + 1)) d q) w ((FX12_readsRank (j + 1 + 1)).1 (nI (1 + 1)) w) := fun q L w h1 h2 h3 h4 h5 h6 => rnk_m (v1 := 2) ht hM (by decide) (fun q hq => ng_gd hpc hq) (fun q L w h7 => r3 q L w (by omega)) h2 h3 h4 h5 h6
    have r1 : ∀ (q : Nat) (L : List Int32) (w : US), p ≤ q → q ≤ min n mo → Rm n mo c q w → Md L w → L.length ≤ q → gI w 47 21 = nI d → MR n mo c q L (smR n mo c (ruR n mo c k (d + 1)) d q) w ((FX12_readsRank (j + 1 + 1 + 1)).1 (nI (0 + 1)) w) := fun q L w h1 h2 h3 h4 h5 h6 => rnk_m (v1 := 1) ht hM (by decide) (fun q hq => pd_gd hpc hq) (fun q L w h7 => r2 q L w (by omega)) h2 h3 h4 h5 h6
    exact rnk_m (v1 := 0) ht hM (by decide) (fun q hq => sm_gd hpc hq) (fun q L w h7 => r1 q L w h7) hp h hL hl h21
/-! rule: both sides -/
/-- what a text says as a rule: an empty one is whole -/
def spR (n : Nat) (c : Nat → Nat) : RuR := if n = 0 then (0, true, [], []) else ruR n 40 c 5 0 0
def spK (n : Nat) (c : Nat → Nat) : Bool := (spR n c).2.1 && decide ((spR n c).1 = n)
def FS (v0 : Nat) (u v : US) : Prop := (v0 = 13 → Fm [(1, 1), (2, 1), (2, 2), (2, 3), (13, 2)] [43] [] u v) ∧ (v0 = 14 → Fm [(1, 1), (2, 1), (2, 2), (2, 3), (14, 2)] [45] [] u v)
theorem nI0 {a : Nat} (h : a < 2 ^ 31) : nI a = 0 ↔ a = 0 := nI_eq (b := 0) h (by omega)
theorem fault_c (hn : n ≤ 80) (h : Rc n mo c p ok u) : ∃ v, fX5_firstFault u = some (if (ok && decide (p = n)) then -1 else nI p, v) ∧ Rc n mo c p (ok && decide (p = n)) v ∧ Fc u v := by
  have hle := h.2.2.2
  unfold fX5_firstFault fX5_firstFault_20
  rw [show gI u 2 2 = nI p from h.2.1, show gI u 1 1 = nI n from h.1.1]
  have key : ∀ b : Bool, b = decide (p = n) → ∃ v, (oB (fX5_demand (bI b) u) fun r1 u1 => some (gI u1 2 3, u1)) = some (if (ok && decide (p = n)) then -1 else nI p, v) ∧ Rc n mo c p (ok && decide (p = n)) v ∧ Fc u v := fun b hb => by
    obtain ⟨v, e1, h1, f1⟩ := dem_c hn h b
    rw [hb] at h1 e1
    rw [hb, e1, oBs, show gI v 2 3 = _ from h1.2.2.1]
    exact ⟨v, rfl, h1, f1⟩
  by_cases q : p < n
  · rw [if_pos (nI_lt q (by omega))]
    exact key false (decide_eq_false (by omega)).symm
  · rw [if_neg (nI_nlt (by omega) (by omega))]
    exact key true (decide_eq_true (by omega)).symm
theorem spare_c (ht : Tok n 40 c) {v0 : Nat} (hv : IsV v0) (hr : u.2.2.2 1 = v0) (hx : u.1 1 1 = nI n ∧ RowN n (u.2.1 15) c) : ∃ v, fX11_readSpare u = some (if spK n c then -1 else nI (spR n c).1, v) ∧ v.1 1 1 = 0 ∧ Cn v0 v ∧ (spK n c = true → Cd v0 (spR n c).2.2.1 v) ∧ FS v0 u v := by
  have hn := ht.1
  have eR : gR u 1 = v0 := hr
  have hv1 : ¬ v0 = 1 := by rcases hv with rfl | rfl <;> decide
  obtain ⟨u1, hu1⟩ : ∃ u1, u1 = sI u v0 2 0 := ⟨_, rfl⟩
  have s1 : FS v0 u u1 := by
    rw [hu1]
    exact ⟨fun q => by subst q; exact Fm.rf.sI rfl, fun q => by subst q; exact Fm.rf.sI rfl⟩
  have c1 : Cd v0 [] u1 := by
    rw [hu1]
    refine ⟨?_, Nat.zero_le _, rfl⟩
    rcases hv with rfl | rfl <;> rfl
  have x1 : u1.1 1 1 = nI n ∧ RowN n (u1.2.1 15) c := by
    rw [hu1]
    rcases hv with rfl | rfl <;> exact hx
  have R1 : gR u1 1 = v0 := by rw [hu1]; exact hr
  unfold fX11_readSpare fX6_clear fX7_isEmpty
  rw [eR, gd_t (isV_r hv), nxs, gd_t (isV_r hv), oVs, ← hu1, show gI u1 1 1 = nI n from x1.1]
  unfold spK spR
  by_cases h0 : n = 0
  · subst h0
    rw [if_pos (show nI 0 = 0 from rfl), oBs, if_neg (show ¬ (1 : Int32) = 0 by decide), if_pos rfl]
    unfold fX11_readSpare_47 fX7_clear
    rw [nxs, oVs]
    refine ⟨_, rfl, rfl, ?_, fun _ => ?_, ?_⟩
    · obtain ⟨a, a1, a2⟩ := c1.cn
      refine ⟨a, a1, ?_⟩
      rcases hv with rfl | rfl <;> exact a2
    · rcases hv with rfl | rfl <;> exact c1
    · exact ⟨fun q => (s1.1 q).sI rfl, fun q => (s1.2 q).sI rfl⟩
  · rw [if_neg (fun q => h0 ((nI0 (by omega)).mp q)), oBs, if_pos rfl, if_neg h0, show (40 : Int32) = nI 40 from rfl]
    obtain ⟨u2, e2, r2, f2⟩ := open_c (mo := 40) x1
    have c2 : Cd v0 [] u2 := by
      obtain ⟨a1, a2, a3⟩ := c1
      refine ⟨?_, a2, rfl⟩
      rcases hv with rfl | rfl
      · exact (f2.i 13 2 rfl).trans a1
      · exact (f2.i 14 2 rfl).trans a1
    have R2 : gR u2 1 = v0 := by
      show u2.2.2.2 1 = v0
      rw [f2.2.2.2]; exact R1
    have hM : min n 40 ≤ 40 := Nat.min_le_right _ _
    obtain ⟨u3, e3, r3, f3, n3, c3⟩ := rul_c ht hM hv 5 8 0 rfl (by decide) (by decide) 0 [] u2 (Nat.zero_le _) r2 c2 (Nat.le_refl _)
    obtain ⟨u4, e4, r4, f4⟩ := fault_c hn r3
    rw [e2, oVs, R2, gd_t (isV_r hv)]
    unfold fX6_read
    rw [gd_t (isV_r hv), show (0 : Int32) = nI 0 from rfl, e3, oVs, oVs, e4, oBs]
    unfold fX11_readSpare_47 fX7_clear
    rw [nxs, oVs]
    have n4 := n3.fc hv f4
    have s4 : FS v0 u u4 := ⟨fun q => ((s1.1 q).trans (f2.mono rfl rfl rfl)).trans (((f3.1 q).mono rfl rfl rfl).trans (f4.mono rfl rfl rfl)), fun q => ((s1.2 q).trans (f2.mono rfl rfl rfl)).trans (((f3.2 q).mono rfl rfl rfl).trans (f4.mono rfl rfl rfl))⟩
    refine ⟨_, rfl, rfl, ?_, fun hk => ?_, ⟨fun q => (s4.1 q).sI rfl, fun q => (s4.2 q).sI rfl⟩⟩
    · obtain ⟨a, a1, a2⟩ := n4
      refine ⟨a, a1, ?_⟩
      rcases hv with rfl | rfl <;> exact a2
    · rw [Bool.and_eq_true] at hk
      have c4 := (c3 hk.1).fc hv f4
      rw [List.nil_append] at c4
      rcases hv with rfl | rfl <;> exact c4
abbrev FRr (u v : US) : Prop := Fm [(47, 18), (47, 19), (47, 20), (47, 21), (47, 27)] [60] [] u v
theorem rules_m (ht : Tok n 40 c) (hx : u.1 47 18 = nI n ∧ RowN n (u.2.1 57) c) : ∃ v, fX12_readsRule u = some (anV n (spR n c).1 (spR n c).2.1 0, v) ∧ v.1 47 18 = 0 ∧ (spK n c = true → Md (spR n c).2.2.2 v) ∧ (spR n c).1 ≤ 80 ∧ FRr u v := by
  have hn := ht.1
  obtain ⟨u1, e1, r1, a1, b1, f1⟩ := begins_m (mo := 40) ht hx
  obtain ⟨u2, hu2⟩ : ∃ u2, u2 = sI u1 47 27 0 := ⟨_, rfl⟩
  have r2 : Rm n 40 c 0 u2 := by rw [hu2]; exact r1.fm (a := [(47, 27)]) (b := []) (d := []) (Fm.rf.sI rfl) rfl rfl
  have c2 : Md [] u2 := by rw [hu2]; exact ⟨rfl, Nat.zero_le _, rfl⟩
  have f2 : FRr u u2 := by rw [hu2]; exact (f1.mono rfl rfl rfl).sI rfl
  have g2 : gI u2 47 18 = 0 := by rw [hu2]; exact a1
  have t2 : gI u2 47 21 = nI 0 := by rw [hu2]; exact b1
  unfold fX12_readsRule
  rw [show (40 : Int32) = nI 40 from rfl, e1, oBs, nxs, ← hu2]
  unfold fX12_readsRule_24 fX12_readsRule_29 spK spR
  by_cases h0 : n = 0
  · subst h0
    rw [if_pos (show nI 0 = 0 from rfl), show (1 : Int32) = bI true from rfl, show (40 : Int32) = nI 40 from rfl, fault_m ht r2, oBs, if_pos rfl]
    exact ⟨u2, rfl, g2, fun _ => c2, Nat.zero_le _, f2⟩
  · have hM : min n 40 ≤ 40 := Nat.min_le_right _ _
    obtain ⟨u3, e3, r3, f3, n3, c3⟩ := rul_m ht hM 5 0 rfl (by decide) 120 0 [] u2 (Nat.zero_le _) (by decide) r2 c2 (Nat.le_refl _) t2
    rw [if_neg (fun q => h0 ((nI0 (by omega)).mp q)), if_neg h0]
    unfold fX12_readsRank
    rw [e3, oBs]
    have hle := r3.2.2
    have hf := fault_m ht r3 (ruR n 40 c 5 0 0).2.1
    have fin : ∃ v, (oB (fX12_faultOf (nI n) (nI 40) (bI (ruR n 40 c 5 0 0).2.1) u3) fun r1 u1 => some (r1, u1)) = some (anV n (ruR n 40 c 5 0 0).1 (ruR n 40 c 5 0 0).2.1 0, v) ∧ v.1 47 18 = 0 ∧ (((ruR n 40 c 5 0 0).2.1 && decide ((ruR n 40 c 5 0 0).1 = n)) = true → Md (ruR n 40 c 5 0 0).2.2.2 v) ∧ (ruR n 40 c 5 0 0).1 ≤ 80 ∧ FRr u v := by
      rw [hf, oBs]
      refine ⟨u3, rfl, (f3.i 47 18 rfl).trans g2, fun hk => ?_, (by omega), f2.trans (f3.mono rfl rfl rfl)⟩
      rw [Bool.and_eq_true] at hk
      exact (c3 hk.1).1
    cases hb : (ruR n 40 c 5 0 0).2.1 with
    | true =>
      rw [hb] at fin
      rw [if_neg (show ¬ bI true = 0 by decide)]; exact fin
    | false =>
      rw [hb] at fin
      rw [if_pos (show bI false = 0 from rfl)]; exact fin
theorem layc_m {v1 : Nat} (h : v1 = 60 ∨ v1 = 81) {k : Nat} (hk : k ≤ 80) : ∃ v, fX12_laysCode v1 (nI k) u = some v ∧ gI v 47 26 = nI k ∧ (∀ j, j < k → v.2.1 59 j = u.2.1 v1 j) ∧ Fm [(47, 26)] [59] [] u v := by
  have hl : ln v1 = 80 := by rcases h with rfl | rfl <;> rfl
  have ho : okA v1 20 = true := by rcases h with rfl | rfl <;> rfl
  have h59 : ¬ v1 = 59 := by rcases h with rfl | rfl <;> decide
  unfold fX12_laysCode
  rw [gd_t ho, nxs]
  refine lpE (fun f (z : Int32) w => fX12_laysCode_7 v1 (nI k) f z w) k (fun i => nI i) (fun i w => gI w 47 26 = nI k ∧ (∀ j, j < i → w.2.1 59 j = u.2.1 v1 j) ∧ Fm [(47, 26)] [59] [] u w) (fun o => ∃ v, o = some v ∧ gI v 47 26 = nI k ∧ (∀ j, j < k → v.2.1 59 j = u.2.1 v1 j) ∧ Fm [(47, 26)] [59] [] u v) ?_ ?_ (by omega) 0 rfl ⟨rfl, fun j hj => absurd hj (Nat.not_lt_zero j), Fm.rf.sI rfl⟩
  · rintro f i w hi ⟨h1, h2, h3⟩
    left
    rw [fX12_laysCode_7, if_neg (nI_ge hi (by omega)), hl, gdi (show i < 80 by omega) (by omega), gdi (show i < 80 by omega) (by omega), nxs, nI_1]
    refine ⟨sA w 59 (nI i) (gA w v1 (nI i)), ⟨h1, fun j hj => ?_, h3.sA rfl⟩, rfl⟩
    show upd (w.2.1 59) (nI i).toNatClampNeg (w.2.1 v1 (nI i).toNatClampNeg) j = _
    rw [nI_clamp (by omega)]
    by_cases q : j = i
    · subst q; rw [pk_us]; rcases h with rfl | rfl
      · rw [h3.a 60 rfl]
      · rw [h3.a 81 rfl]
    · rw [pk_un q]; exact h2 j (by omega)
  · rintro f w ⟨h1, h2, h3⟩
    rw [fX12_laysCode_7, if_pos (nI_le (Nat.le_refl _) (by omega))]
    exact ⟨w, rfl, h1, h2, h3⟩
theorem codL_eq {f g : Nat → Int32} {k : Nat} (h : ∀ j, j < k → f j = g j) : codL f k = codL g k := by
  unfold codL
  exact List.map_congr_left (fun j hj => h j (List.mem_range.mp hj))
/-- the codes of a whole text are worth the same -/
theorem sp_rel (hk : spK n c = true) : RuleRel (spR n c).2.2.1 (spR n c).2.2.2 := by
  unfold spK spR at *
  by_cases h0 : n = 0
  · rw [if_pos h0]; exact Or.inl ⟨rfl, rfl⟩
  · rw [if_neg h0] at *
    rw [Bool.and_eq_true] at hk
    obtain ⟨k1, k2, k3, k4, k5, k6⟩ := (ru_gd (n := n) (mo := 40) (c := c) 5 0 0 (Nat.zero_le _)).2.2 hk.1
    exact Vl_rel k2 (fun q => by rw [q] at k3; cases k3) (fun q => by rw [q] at k5; cases k5)
theorem neg_n0 (p : Nat) (hp : p ≤ 80) : ¬ (-1 : Int32) - nI p = 0 := fun q => neg_nle p hp (by rw [q]; decide)
def rulI : List (Nat × Nat) := (1, 1) :: (47, 18) :: (13, 2) :: (14, 2) :: (47, 26) :: scrIt
def rulA : List Nat := 43 :: 45 :: 59 :: scrA
/-- a frame that leaves out which rule is which -/
abbrev FmR (a : List (Nat × Nat)) (b d : List Nat) (u v : US) : Prop := Fm a b d u (v.1, v.2.1, v.2.2.1, u.2.2.2)
theorem Fm.fmr {a : List (Nat × Nat)} {b d : List Nat} (h : Fm a b d u v) : FmR a b d u v := ⟨h.1, h.2.1, h.2.2.1, rfl⟩
theorem FmR.trans {a : List (Nat × Nat)} {b d : List Nat} (h : FmR a b d u v) (h2 : FmR a b d v w) : FmR a b d u w := ⟨fun i k q => (h2.1 i k q).trans (h.1 i k q), fun i q => (h2.2.1 i q).trans (h.2.1 i q), fun i q => (h2.2.2.1 i q).trans (h.2.2.1 i q), rfl⟩
theorem FmR.mono {a a' : List (Nat × Nat)} {b b' d d' : List Nat} (h : FmR a b d u v) (h1 : a.all (fun x => a'.contains x) = true) (h2 : b.all (fun x => b'.contains x) = true) (h3 : d.all (fun x => d'.contains x) = true) : FmR a' b' d' u v := Fm.mono h h1 h2 h3
theorem FmR.sR {a : List (Nat × Nat)} {b d : List Nat} (h : FmR a b d u v) (i x : Nat) : FmR a b d u (sR v i x) := h
theorem Inv_rul {k : Nat} (h : Inv k u) (f : FmR rulI rulA scrJt u v) (e1 : v.1 1 1 = 0) (e2 : v.1 47 18 = 0) (ht : ITold (v.1 8 1) (v.1 47 1) (v.2.2.1 33) (v.2.2.1 48)) (hr : IRul (v.2.2.2 0) (v.2.2.2 1) (v.1 13 2) (v.1 14 2) (v.1 47 26) (v.2.1 43) (v.2.1 45) (v.2.1 59)) : Inv (k + 1) v := by
  obtain ⟨R, C, nt, np, nr, h1, h2, h3, h4, h5, h6, h7, h8, h9, h10⟩ := h
  have i : ∀ a b, rulI.contains (a, b) = false → v.1 a b = u.1 a b := fun a b q => f.i a b q
  have a : ∀ x, rulA.contains x = false → v.2.1 x = u.2.1 x := fun x q => f.a x q
  refine ⟨R, C, nt, np, nr, h1, ?_, ?_, ?_, ?_, hr, ?_, ?_, ht, ?_⟩
  · rw [i 3 0 rfl, i 47 3 rfl, i 3 1 rfl, i 47 4 rfl, i 3 2 rfl, i 47 5 rfl, i 3 3 rfl, i 47 6 rfl, i 3 4 rfl, i 47 7 rfl]; exact h2
  · exact ⟨0, Nat.zero_le _, e1, e2, fun j hj => absurd hj (Nat.not_lt_zero j)⟩
  · rw [a 16 rfl, a 17 rfl, a 18 rfl, a 19 rfl, a 20 rfl, a 21 rfl, a 49 rfl, a 50 rfl, a 51 rfl, a 52 rfl, a 53 rfl, a 54 rfl]; exact h4
  · rw [a 22 rfl, a 23 rfl, a 24 rfl, a 55 rfl, i 4 3 rfl, i 4 4 rfl]; exact h5
  · rw [i 7 3 rfl, i 47 30 rfl, a 31 rfl, a 63 rfl]; exact h7
  · rw [i 7 2 rfl, i 47 8 rfl, a 32 rfl, a 82 rfl, a 83 rfl, a 84 rfl, i 4 4 rfl, a 31 rfl]; exact IKept_mono h8
  · rw [i 11 3 rfl, i 47 43 rfl, a 36 rfl, a 37 rfl, a 38 rfl, a 74 rfl, a 75 rfl, a 76 rfl]; exact h10
theorem Inv_irul {k : Nat} (h : Inv k u) : IRul (u.2.2.2 0) (u.2.2.2 1) (u.1 13 2) (u.1 14 2) (u.1 47 26) (u.2.1 43) (u.2.1 45) (u.2.1 59) := by
  obtain ⟨R, C, nt, np, nr, h1, h2, h3, h4, h5, h6, h7, h8, h9, h10⟩ := h
  exact h6
theorem st_6 : St_6 Inv := by
  intro k u hk hI
  obtain ⟨n, c, hn, hc, hxc, hxm⟩ := tx_of hI
  have ht : Tok n 40 c := ⟨hn, by decide, hc⟩
  have hRu := Inv_irul hI
  have hTo := Inv_told hI
  obtain ⟨q0, v0, hq0, hv0, hV, hne⟩ : ∃ q0 v0, u.2.2.2 0 = q0 ∧ u.2.2.2 1 = v0 ∧ IsV v0 ∧ ((q0 = 13 ∧ v0 = 14) ∨ (q0 = 14 ∧ v0 = 13)) := by
    obtain ⟨a, b, k', _, _, _, _, _, _, ⟨r0, r1, _⟩ | ⟨r0, r1, _⟩⟩ := hRu
    · exact ⟨13, 14, r0, r1, Or.inr rfl, Or.inl ⟨rfl, rfl⟩⟩
    · exact ⟨14, 13, r0, r1, Or.inl rfl, Or.inr ⟨rfl, rfl⟩⟩
  obtain ⟨y, e1, y1, cn, cd, fs⟩ := spare_c ht hV hv0 hxc
  have fy : Fm [(1, 1), (2, 1), (2, 2), (2, 3), (13, 2), (14, 2)] [43, 45] [] u y := by
    rcases hV with q | q
    · exact (fs.1 q).mono rfl rfl rfl
    · exact (fs.2 q).mono rfl rfl rfl
  cases hK : spK n c with
  | true =>
    rw [hK, if_pos rfl] at e1
    obtain ⟨z, hz⟩ : ∃ z, z = sR (sR y 0 (gR y 1)) 1 (gR y 0) := ⟨_, rfl⟩
    have R1 : gR y 1 = v0 := by show y.2.2.2 1 = _; rw [fy.2.2.2, hv0]
    have R0 : gR y 0 = q0 := by show y.2.2.2 0 = _; rw [fy.2.2.2, hq0]
    have ec : fX11_rule u = some (0, z) := by
      unfold fX11_rule fX11_swapRules
      rw [e1, oBs, if_pos rfl, nxs, nxs, oVs, hz]
    have z1 : z.1 = y.1 ∧ z.2.1 = y.2.1 ∧ z.2.2.1 = y.2.2.1 ∧ z.2.2.2 0 = v0 ∧ z.2.2.2 1 = q0 := by
      rw [hz, R1, R0]; exact ⟨rfl, rfl, rfl, rfl, rfl⟩
    have xz : (sI z 47 0 0).1 47 18 = nI n ∧ RowN n ((sI z 47 0 0).2.1 57) c := by
      refine ⟨?_, ?_⟩
      · show z.1 47 18 = _
        rw [z1.1, fy.i 47 18 rfl]; exact hxm.1
      · show RowN n (z.2.1 57) c
        rw [z1.2.1, fy.a 57 rfl]; exact hxm.2
    obtain ⟨w1, e2, g18, md, _, f2⟩ := rules_m ht xz
    have hK' := hK
    unfold spK at hK'
    rw [show anV n (spR n c).1 (spR n c).2.1 0 = 0 by unfold anV; rw [hK']; rfl] at e2
    obtain ⟨m1, m2, m3⟩ := md hK
    obtain ⟨w2, e3, g26, l2, f3⟩ := layc_m (u := w1) (v1 := 60) (Or.inl rfl) m2
    have em : fX12_rule z = some (0, w2) := by
      unfold fX12_rule
      rw [nxs, e2, oBs, if_pos rfl, m1, e3, oVs]
    refine ⟨0, z, w2, ec, em, ?_⟩
    have fz : Fm [(47, 0), (47, 18), (47, 19), (47, 20), (47, 21), (47, 26), (47, 27)] [59, 60] [] z w2 := ((Fm.rf.sI rfl).trans (f2.mono rfl rfl rfl)).trans (f3.mono rfl rfl rfl)
    have f0 : FmR rulI rulA scrJt u z := by rw [hz]; exact (fy.mono rfl rfl rfl).fmr
    have fa : FmR rulI rulA scrJt u w2 := f0.trans (fz.mono rfl rfl rfl).fmr
    have hc59 : codL (w2.2.1 59) (spR n c).2.2.2.length = (spR n c).2.2.2 := by rw [codL_eq l2]; exact m3
    obtain ⟨c1, c2, c3⟩ := cd hK
    refine Inv_rul hI fa ?_ ((f3.i 47 18 rfl).trans g18) ?_ ?_
    · rw [fz.i 1 1 rfl, z1.1]; exact y1
    · rw [fz.i 8 1 rfl, fz.i 47 1 rfl, fz.j 33 rfl, fz.j 48 rfl, z1.1, z1.2.2.1, fy.i 8 1 rfl, fy.i 47 1 rfl, fy.j 33 rfl, fy.j 48 rfl]; exact hTo
    · rw [fz.2.2.2, z1.2.2.2.1, z1.2.2.2.2, fz.i 13 2 rfl, fz.i 14 2 rfl, fz.a 43 rfl, fz.a 45 rfl, z1.1, z1.2.1]
      obtain ⟨a, b, k', ha, hb, hk', ea, eb, ek, hr⟩ := hRu
      rcases hne with ⟨rfl, rfl⟩ | ⟨rfl, rfl⟩
      · refine ⟨a, _, _, ha, c2, m2, ((fs.2 rfl).i 13 2 rfl).trans ea, c1, g26, Or.inr ⟨rfl, rfl, ?_⟩⟩
        rw [hc59, show codL (y.2.1 45) (spR n c).2.2.1.length = _ from c3]
        exact sp_rel hK
      · refine ⟨_, b, _, c2, hb, m2, c1, ((fs.1 rfl).i 14 2 rfl).trans eb, g26, Or.inl ⟨rfl, rfl, ?_⟩⟩
        rw [hc59, show codL (y.2.1 43) (spR n c).2.2.1.length = _ from c3]
        exact sp_rel hK
  | false =>
    rw [hK, if_neg (by decide)] at e1
    have xz : (sI y 47 0 0).1 47 18 = nI n ∧ RowN n ((sI y 47 0 0).2.1 57) c := by
      refine ⟨?_, ?_⟩
      · show y.1 47 18 = _
        rw [fy.i 47 18 rfl]; exact hxm.1
      · show RowN n (y.2.1 57) c
        rw [fy.a 57 rfl]; exact hxm.2
    obtain ⟨w1, e2, g18, md, hle, f2⟩ := rules_m ht xz
    have hK' := hK
    unfold spK at hK'
    rw [show anV n (spR n c).1 (spR n c).2.1 0 = -1 - nI (spR n c).1 by unfold anV; rw [hK']; rfl] at e2
    have ec : fX11_rule u = some (-1 - nI (spR n c).1, y) := by
      unfold fX11_rule
      rw [e1, oBs, if_neg (n31 (by omega))]
    have em : fX12_rule y = some (-1 - nI (spR n c).1, w1) := by
      unfold fX12_rule
      rw [nxs, e2, oBs, if_neg (neg_n0 _ hle)]
    refine ⟨_, y, w1, ec, em, ?_⟩
    have fz : Fm [(47, 0), (47, 18), (47, 19), (47, 20), (47, 21), (47, 27)] [60] [] y w1 := (Fm.rf.sI rfl).trans (f2.mono rfl rfl rfl)
    have fa : FmR rulI rulA scrJt u w1 := FmR.trans (fy.mono rfl rfl rfl).fmr (fz.mono rfl rfl rfl).fmr
    refine Inv_rul hI fa ((fz.i 1 1 rfl).trans y1) g18 ?_ ?_
    · rw [fz.i 8 1 rfl, fz.i 47 1 rfl, fz.j 33 rfl, fz.j 48 rfl, fy.i 8 1 rfl, fy.i 47 1 rfl, fy.j 33 rfl, fy.j 48 rfl]; exact hTo
    · obtain ⟨a, b, k', ha, hb, hk', ea, eb, ek, hr⟩ := hRu
      obtain ⟨x, x1, x2⟩ := cn
      rw [fz.2.2.2, fy.2.2.2, hq0, hv0, fz.i 13 2 rfl, fz.i 14 2 rfl, fz.i 47 26 rfl, fz.a 43 rfl, fz.a 45 rfl, fz.a 59 rfl, fy.i 47 26 rfl, fy.a 59 rfl]
      rw [hq0, hv0] at hr
      rcases hne with ⟨rfl, rfl⟩ | ⟨rfl, rfl⟩
      · refine ⟨a, x, k', ha, x1, hk', ((fs.2 rfl).i 13 2 rfl).trans ea, x2, ek, Or.inl ⟨rfl, rfl, ?_⟩⟩
        rw [(fs.2 rfl).a 43 rfl]
        rcases hr with ⟨_, _, h⟩ | ⟨h, _⟩
        · exact h
        · exact absurd h (by decide)
      · refine ⟨x, b, k', x1, hb, hk', x2, ((fs.1 rfl).i 14 2 rfl).trans eb, ek, Or.inr ⟨rfl, rfl, ?_⟩⟩
        rw [(fs.1 rfl).a 45 rfl]
        rcases hr with ⟨h, _⟩ | ⟨_, _, h⟩
        · exact absurd h (by decide)
        · exact h
