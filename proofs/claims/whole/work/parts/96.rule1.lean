/-! rule: what the text says, and what the codes are worth -/
variable {D : DD} {m m' : MM} {e r : Nat} {u v : US} {n mo p : Nat} {c : Nat → Nat} {ok : Bool}
/-- place behind, whether it is whole, the class's codes, the model's codes -/
abbrev RuR : Type := Nat × Bool × List Int32 × List Int32
def isd (n mo : Nat) (c : Nat → Nat) (q : Nat) : Bool := (sgO n mo c 48 10 q).isSome
def nuL (n mo : Nat) (c : Nat → Nat) (q : Nat) : Nat := if isd n mo c (q + 1) then (if isd n mo c (q + 2) then 3 else 2) else 1
def nuV (c : Nat → Nat) (q : Nat) : Nat → Nat
  | 0 => 0
  | k + 1 => nuV c q k * 10 + (c (q + k) - 48)
def opR (n mo : Nat) (c : Nat → Nat) (pc : Nat → RuR) (d q : Nat) : RuR :=
  if htB n mo c q 40 then (if 4 ≤ d then (q, false, [], []) else (if ((pc (q + 1)).2.1 && htB n mo c (pc (q + 1)).1 41) then ((pc (q + 1)).1 + 1, true, (pc (q + 1)).2.2) else ((pc (q + 1)).1, false, [], [])))
  else if isd n mo c q then (q + nuL n mo c q, true, [nI (1000 + nuV c q (nuL n mo c q))], [nI (nuV c q (nuL n mo c q))])
  else match amO n mo c 2 q with
    | some j => (q + 1, true, [nI (c q)], [nI (1000 + j)])
    | none => (q, false, [], [])
def mnN (n mo : Nat) (c : Nat → Nat) : Nat → Nat → Nat
  | 0, _ => 0
  | f + 1, q => if htB n mo c q 45 then mnN n mo c f (q + 1) + 1 else 0
def ngR (n mo : Nat) (c : Nat → Nat) (pc : Nat → RuR) (d q : Nat) : RuR :=
  ((opR n mo c pc d (q + mnN n mo c 40 q)).1, (opR n mo c pc d (q + mnN n mo c 40 q)).2.1, (opR n mo c pc d (q + mnN n mo c 40 q)).2.2.1 ++ (if mnN n mo c 40 q % 2 = 1 then [nI 126] else []), (opR n mo c pc d (q + mnN n mo c 40 q)).2.2.2 ++ List.replicate (mnN n mo c 40 q) (nI 3000))
/-- join what stands with what follows a sign -/
def jnR (a b : RuR) (x y : Int32) : RuR := (b.1, b.2.1, a.2.2.1 ++ b.2.2.1 ++ [x], a.2.2.2 ++ b.2.2.2 ++ [y])
def chR (n mo : Nat) (c : Nat → Nat) (sub : Nat → RuR) (ix bs : Nat) : Nat → RuR → RuR
  | 0, a => a
  | f + 1, a => if a.2.1 then (match amO n mo c ix a.1 with | some j => chR n mo c sub ix bs f (jnR a (sub (a.1 + 1)) (nI (c a.1)) (nI (bs + j))) | none => a) else a
def pdR (n mo : Nat) (c : Nat → Nat) (pc : Nat → RuR) (d q : Nat) : RuR := chR n mo c (ngR n mo c pc d) 5 2005 40 (ngR n mo c pc d q)
def smR (n mo : Nat) (c : Nat → Nat) (pc : Nat → RuR) (d q : Nat) : RuR := chR n mo c (pdR n mo c pc d) 4 2003 40 (pdR n mo c pc d q)
def cpR (n mo : Nat) (c : Nat → Nat) (pc : Nat → RuR) (d q : Nat) : RuR := chR n mo c (smR n mo c pc d) 3 2000 1 (smR n mo c pc d q)
/-- the whole: k deeper levels are left -/
def ruR (n mo : Nat) (c : Nat → Nat) : Nat → Nat → Nat → RuR
  | 0, _, q => (q, false, [], [])
  | k + 1, d, q => cpR n mo c (ruR n mo c k (d + 1)) d q
theorem evC_c {l h k s t c : Int32} {cs st : List Int32} : evC l h k s t (c :: cs) st = if c = 126 then (match st with | x :: r => evC l h k s t cs (-x :: r) | [] => none) else if 1000 ≤ c then evC l h k s t cs ((c - 1000) :: st) else if isNm c then evC l h k s t cs (nmC c l h k s t :: st) else (match st with | b :: a :: r => evC l h k s t cs (jnC c a b :: r) | _ => none) := by
  rw [evC.eq_def]; rfl
theorem evM_c {l h k s t c : Int32} {cs st : List Int32} : evM l h k s t (c :: cs) st = if c = 3000 then (match st with | x :: r => evM l h k s t cs (-x :: r) | [] => none) else if 2000 ≤ c then (match st with | b :: a :: r => evM l h k s t cs (wkM (c - 2000) a b :: r) | _ => none) else if 1000 ≤ c then (if 1005 < c then none else evM l h k s t cs (nmM (c - 1000) l h k s t :: st)) else evM l h k s t cs (c :: st) := by
  rw [evM.eq_def]; rfl
theorem evC_app {l h k s t : Int32} : ∀ (a b st : List Int32), evC l h k s t (a ++ b) st = (evC l h k s t a st).bind (evC l h k s t b)
  | [], b, st => rfl
  | x :: a, b, st => by
    rw [List.cons_append, evC_c, evC_c]
    by_cases q1 : x = 126
    · rw [if_pos q1, if_pos q1]
      cases st with
      | nil => rfl
      | cons y ys => exact evC_app a b _
    · rw [if_neg q1, if_neg q1]
      by_cases q2 : 1000 ≤ x
      · rw [if_pos q2, if_pos q2]; exact evC_app a b _
      · rw [if_neg q2, if_neg q2]
        by_cases q3 : isNm x = true
        · rw [if_pos q3, if_pos q3]; exact evC_app a b _
        · rw [if_neg q3, if_neg q3]
          match st with
          | [] => rfl
          | [_] => rfl
          | y :: z :: ys => exact evC_app a b _
theorem evM_app {l h k s t : Int32} : ∀ (a b st : List Int32), evM l h k s t (a ++ b) st = (evM l h k s t a st).bind (evM l h k s t b)
  | [], b, st => rfl
  | x :: a, b, st => by
    rw [List.cons_append, evM_c, evM_c]
    by_cases q1 : x = 3000
    · rw [if_pos q1, if_pos q1]
      cases st with
      | nil => rfl
      | cons y ys => exact evM_app a b _
    · rw [if_neg q1, if_neg q1]
      by_cases q2 : 2000 ≤ x
      · rw [if_pos q2, if_pos q2]
        match st with
        | [] => rfl
        | [_] => rfl
        | y :: z :: ys => exact evM_app a b _
      · rw [if_neg q2, if_neg q2]
        by_cases q3 : 1000 ≤ x
        · rw [if_pos q3, if_pos q3]
          by_cases q4 : 1005 < x
          · rw [if_pos q4, if_pos q4]; rfl
          · rw [if_neg q4, if_neg q4]; exact evM_app a b _
        · rw [if_neg q3, if_neg q3]; exact evM_app a b _
/-- both codes leave the same number on what stands -/
def Vl (cs ms : List Int32) : Prop := ∀ l h k s t : Int32, (∃ a : Nat, a < 10 ∧ l = nI a) → (∃ a : Nat, a < 256 ∧ h = nI a) → (∃ a : Nat, a < 8 ∧ k = nI a) → (∃ a : Nat, a < 10 ∧ s = nI a) → ∃ x, (∀ st, evC l h k s t cs st = some (x :: st)) ∧ ∀ st, evM l h k s t ms st = some (x :: st)
theorem Vl_rel {cs ms : List Int32} (h : Vl cs ms) (h1 : cs ≠ []) (h2 : ms ≠ []) : RuleRel cs ms := Or.inr ⟨h1, h2, fun l hh k s t a1 a2 a3 a4 => by
  obtain ⟨x, e1, e2⟩ := h l hh k s t a1 a2 a3 a4
  exact ⟨x, e1 [], e2 []⟩⟩
theorem Vl_num {a : Nat} (ha : a < 1000) : Vl [nI (1000 + a)] [nI a] := by
  intro l h k s t _ _ _ _
  refine ⟨nI a, fun st => ?_, fun st => ?_⟩
  · rw [evC_c, if_neg (show ¬ nI (1000 + a) = 126 from fun x => by have := congrArg Int32.toInt x; rw [nI_toInt (by omega)] at this; have h4 : (126 : Int32).toInt = 126 := rfl; omega), if_pos (show (1000 : Int32) ≤ nI (1000 + a) from nI_le (a := 1000) (by omega) (by omega)), show nI (1000 + a) - 1000 = nI a from (pk_sub (a := 1000 + a) (b := 1000) (by omega)).trans (by rw [Nat.add_sub_cancel_left])]; rfl
  · rw [evM_c, if_neg (show ¬ nI a = 3000 from fun x => by have := congrArg Int32.toInt x; rw [nI_toInt (by omega)] at this; have h4 : (3000 : Int32).toInt = 3000 := rfl; omega), if_neg (show ¬ (2000 : Int32) ≤ nI a from nI_ge (b := 2000) (by omega) (by omega)), if_neg (show ¬ (1000 : Int32) ≤ nI a from nI_ge (b := 1000) (by omega) (by omega))]; rfl
theorem Vl_neg {cs ms : List Int32} (h : Vl cs ms) : ∀ k : Nat, Vl (cs ++ (if k % 2 = 1 then [nI 126] else [])) (ms ++ List.replicate k (nI 3000)) := by
  intro k l hh kk s t a1 a2 a3 a4
  obtain ⟨x, e1, e2⟩ := h l hh kk s t a1 a2 a3 a4
  have key : ∀ k : Nat, ∀ st, evM l hh kk s t (ms ++ List.replicate k (nI 3000)) st = some ((if k % 2 = 1 then -x else x) :: st) := by
    intro k
    induction k with
    | zero => intro st; rw [List.replicate_zero, List.append_nil, e2]; rfl
    | succ k ih =>
      intro st
      rw [List.replicate_succ', ← List.append_assoc, evM_app, ih]
      show evM l hh kk s t [nI 3000] ((if k % 2 = 1 then -x else x) :: st) = _
      rw [evM_c, if_pos (show nI 3000 = 3000 from rfl)]
      show some ((-(if k % 2 = 1 then -x else x)) :: st) = _
      by_cases q : k % 2 = 1
      · rw [if_pos q, if_neg (show ¬ (k + 1) % 2 = 1 by omega), Int32.neg_neg]
      · rw [if_neg q, if_pos (show (k + 1) % 2 = 1 by omega)]
  refine ⟨if k % 2 = 1 then -x else x, fun st => ?_, key k⟩
  rw [evC_app, e1]
  show evC l hh kk s t _ (x :: st) = _
  by_cases q : k % 2 = 1
  · rw [if_pos q, if_pos q, evC_c, if_pos (show nI 126 = 126 from rfl)]; rfl
  · rw [if_neg q, if_neg q]; rfl
theorem Vl_op {c1 m1 c2 m2 : List Int32} {x y : Int32} (h1 : Vl c1 m1) (h2 : Vl c2 m2) (hx : ¬ x = 126) (hx2 : ¬ 1000 ≤ x) (hx3 : isNm x = false) (hy : ¬ y = 3000) (hy2 : 2000 ≤ y) (hj : ∀ a b, jnC x a b = wkM (y - 2000) a b) : Vl (c1 ++ c2 ++ [x]) (m1 ++ m2 ++ [y]) := by
  intro l hh kk s t a1 a2 a3 a4
  obtain ⟨z, e1, e2⟩ := h1 l hh kk s t a1 a2 a3 a4
  obtain ⟨w, e3, e4⟩ := h2 l hh kk s t a1 a2 a3 a4
  refine ⟨jnC x z w, fun st => ?_, fun st => ?_⟩
  · rw [evC_app, evC_app, e1]
    show (evC l hh kk s t c2 (z :: st)).bind _ = _
    rw [e3]
    show evC l hh kk s t [x] (w :: z :: st) = _
    rw [evC_c, if_neg hx, if_neg hx2, hx3, if_neg (by decide)]; rfl
  · rw [evM_app, evM_app, e2]
    show (evM l hh kk s t m2 (z :: st)).bind _ = _
    rw [e4]
    show evM l hh kk s t [y] (w :: z :: st) = _
    rw [evM_c, if_neg hy, if_pos hy2, hj]; rfl
