/-! rule: what the text says, and what the codes are worth -/
variable {D : DD} {m m' : MM} {e r : Nat} {u v : US} {n mo p : Nat} {c : Nat → Nat} {ok : Bool}
/-- place behind, whether it is whole, the class's codes, the model's codes -/
abbrev RuR : Type := Nat × Bool × List Int32 × List Int32
def isd (n mo : Nat) (c : Nat → Nat) (q : Nat) : Bool := (sgO n mo c 48 10 q).isSome
def nuL (n mo : Nat) (c : Nat → Nat) (q : Nat) : Nat := if isd n mo c (q + 1) then (if isd n mo c (q + 2) then 3 else 2) else 1
def nuV (c : Nat → Nat) (q : Nat) : Nat → Nat
  | 0 => 0
  | k + 1 => nuV c q k * 10 + (c (q + k) - 48)
def opR (n mo : Nat) (c : Nat → Nat) (pc : Nat → RuR) (d q : Nat) : RuR :=
  if htB n mo c q 40 then (if 4 ≤ d then (q, false, [], []) else (if ((pc (q + 1)).2.1 && htB n mo c (pc (q + 1)).1 41) then ((pc (q + 1)).1 + 1, true, (pc (q + 1)).2.2) else ((pc (q + 1)).1, false, [], [])))
  else if isd n mo c q then (q + nuL n mo c q, true, [nI (1000 + nuV c q (nuL n mo c q))], [nI (nuV c q (nuL n mo c q))])
  else match amO n mo c 2 q with
    | some j => (q + 1, true, [nI (c q)], [nI (1000 + j)])
    | none => (q, false, [], [])
def mnN (n mo : Nat) (c : Nat → Nat) : Nat → Nat → Nat
  | 0, _ => 0
  | f + 1, q => if htB n mo c q 45 then mnN n mo c f (q + 1) + 1 else 0
def ngR (n mo : Nat) (c : Nat → Nat) (pc : Nat → RuR) (d q : Nat) : RuR :=
  ((opR n mo c pc d (q + mnN n mo c 40 q)).1, (opR n mo c pc d (q + mnN n mo c 40 q)).2.1, (opR n mo c pc d (q + mnN n mo c 40 q)).2.2.1 ++ (if mnN n mo c 40 q % 2 = 1 then [nI 126] else []), (opR n mo c pc d (q + mnN n mo c 40 q)).2.2.2 ++ List.replicate (mnN n mo c 40 q) (nI 3000))
/-- join what stands with what follows a sign -/
def jnR (a b : RuR) (x y : Int32) : RuR := (b.1, b.2.1, a.2.2.1 ++ b.2.2.1 ++ [x], a.2.2.2 ++ b.2.2.2 ++ [y])
def chR (n mo : Nat) (c : Nat → Nat) (sub : Nat → RuR) (ix bs : Nat) : Nat → RuR → RuR
  | 0, a => a
  | f + 1, a => if a.2.1 then (match amO n mo c ix a.1 with | some j => chR n mo c sub ix bs f (jnR a (sub (a.1 + 1)) (nI (c a.1)) (nI (bs + j))) | none => a) else a
def pdR (n mo : Nat) (c : Nat → Nat) (pc : Nat → RuR) (d q : Nat) : RuR := chR n mo c (ngR n mo c pc d) 5 2005 40 (ngR n mo c pc d q)
def smR (n mo : Nat) (c : Nat → Nat) (pc : Nat → RuR) (d q : Nat) : RuR := chR n mo c (pdR n mo c pc d) 4 2003 40 (pdR n mo c pc d q)
def cpR (n mo : Nat) (c : Nat → Nat) (pc : Nat → RuR) (d q : Nat) : RuR := chR n mo c (smR n mo c pc d) 3 2000 1 (smR n mo c pc d q)
/-- the whole: k deeper levels are left -/
def ruR (n mo : Nat) (c : Nat → Nat) : Nat → Nat → Nat → RuR
  | 0, _, q => (q, false, [], [])
  | k + 1, d, q => cpR n mo c (ruR n mo c k (d + 1)) d q
theorem evC_c {l h k s t c : Int32} {cs st : List Int32} : evC l h k s t (c :: cs) st = if c = 126 then (match st with | x :: r => evC l h k s t cs (-x :: r) | [] => none) else if 1000 ≤ c then evC l h k s t cs ((c - 1000) :: st) else if isNm c then evC l h k s t cs (nmC c l h k s t :: st) else (match st with | b :: a :: r => evC l h k s t cs (jnC c a b :: r) | _ => none) := by
  rw [evC.eq_def]; rfl
theorem evM_c {l h k s t c : Int32} {cs st : List Int32} : evM l h k s t (c :: cs) st = if c = 3000 then (match st with | x :: r => evM l h k s t cs (-x :: r) | [] => none) else if 2000 ≤ c then (match st with | b :: a :: r => evM l h k s t cs (wkM (c - 2000) a b :: r) | _ => none) else if 1000 ≤ c then (if 1005 < c then none else evM l h k s t cs (nmM (c - 1000) l h k s t :: st)) else evM l h k s t cs (c :: st) := by
  rw [evM.eq_def]; rfl
theorem evC_app {l h k s t : Int32} : ∀ (a b st : List Int32), evC l h k s t (a ++ b) st = (evC l h k s t a st).bind (evC l h k s t b)
  | [], b, st => rfl
  | x :: a, b, st => by
    rw [List.cons_append, evC_c, evC_c]
    by_cases q1 : x = 126
    · rw [if_pos q1, if_pos q1]
      cases st with
      | nil => rfl
      | cons y ys => exact evC_app a b _
    · rw [if_neg q1, if_neg q1]
      by_cases q2 : 1000 ≤ x
      · rw [if_pos q2, if_pos q2]; exact evC_app a b _
      · rw [if_neg q2, if_neg q2]
        by_cases q3 : isNm x = true
        · rw [if_pos q3, if_pos q3]; exact evC_app a b _
        · rw [if_neg q3, if_neg q3]
          match st with
          | [] => rfl
          | [_] => rfl
          | y :: z :: ys => exact evC_app a b _
theorem evM_app {l h k s t : Int32} : ∀ (a b st : List Int32), evM l h k s t (a ++ b) st = (evM l h k s t a st).bind (evM l h k s t b)
  | [], b, st => rfl
  | x :: a, b, st => by
    rw [List.cons_append, evM_c, evM_c]
    by_cases q1 : x = 3000
    · rw [if_pos q1, if_pos q1]
      cases st with
      | nil => rfl
      | cons y ys => exact evM_app a b _
    · rw [if_neg q1, if_neg q1]
      by_cases q2 : 2000 ≤ x
      · rw [if_pos q2, if_pos q2]
        match st with
        | [] => rfl
        | [_] => rfl
        | y :: z :: ys => exact evM_app a b _
      · rw [if_neg q2, if_neg q2]
        by_cases q3 : 1000 ≤ x
        · rw [if_pos q3, if_pos q3]
          by_cases q4 : 1005 < x
          · rw [if_pos q4, if_pos q4]; rfl
          · rw [if_neg q4, if_neg q4]; exact evM_app a b _
        · rw [if_neg q3, if_neg q3]; exact evM_app a b _
/-- both codes leave the same number on what stands -/
def Vl (cs ms : List Int32) : Prop := ∀ l h k s t : Int32, (∃ a : Nat, a < 10 ∧ l = nI a) → (∃ a : Nat, a < 256 ∧ h = nI a) → (∃ a : Nat, a < 8 ∧ k = nI a) → (∃ a : Nat, a < 10 ∧ s = nI a) → ∃ x, (∀ st, evC l h k s t cs st = some (x :: st)) ∧ ∀ st, evM l h k s t ms st = some (x :: st)
theorem Vl_rel {cs ms : List Int32} (h : Vl cs ms) (h1 : cs ≠ []) (h2 : ms ≠ []) : RuleRel cs ms := Or.inr ⟨h1, h2, fun l hh k s t a1 a2 a3 a4 => by
  obtain ⟨x, e1, e2⟩ := h l hh k s t a1 a2 a3 a4
  exact ⟨x, e1 [], e2 []⟩⟩
theorem Vl_num {a : Nat} (ha : a < 1000) : Vl [nI (1000 + a)] [nI a] := by
  intro l h k s t _ _ _ _
  refine ⟨nI a, fun st => ?_, fun st => ?_⟩
  · rw [evC_c, if_neg (show ¬ nI (1000 + a) = 126 from fun x => by have := congrArg Int32.toInt x; rw [nI_toInt (by omega)] at this; have h4 : (126 : Int32).toInt = 126 := rfl; omega), if_pos (show (1000 : Int32) ≤ nI (1000 + a) from nI_le (a := 1000) (by omega) (by omega)), show nI (1000 + a) - 1000 = nI a from (pk_sub (a := 1000 + a) (b := 1000) (by omega)).trans (by rw [Nat.add_sub_cancel_left])]; rfl
  · rw [evM_c, if_neg (show ¬ nI a = 3000 from fun x => by have := congrArg Int32.toInt x; rw [nI_toInt (by omega)] at this; have h4 : (3000 : Int32).toInt = 3000 := rfl; omega), if_neg (show ¬ (2000 : Int32) ≤ nI a from nI_ge (b := 2000) (by omega) (by omega)), if_neg (show ¬ (1000 : Int32) ≤ nI a from nI_ge (b := 1000) (by omega) (by omega))]; rfl
theorem Vl_neg {cs ms : List Int32} (h : Vl cs ms) : ∀ k : Nat, Vl (cs ++ (if k % 2 = 1 then [nI 126] else [])) (ms ++ List.replicate k (nI 3000)) := by
  intro k l hh kk s t a1 a2 a3 a4
  obtain ⟨x, e1, e2⟩ := h l hh kk s t a1 a2 a3 a4
  have key : ∀ k : Nat, ∀ st, evM l hh kk s t (ms ++ List.replicate k (nI 3000)) st = some ((if k % 2 = 1 then -x else x) :: st) := by
    intro k
    induction k with
    | zero => intro st; rw [List.replicate_zero, List.append_nil, e2]; rfl
    | succ k ih =>
      intro st
      rw [List.replicate_succ', ← List.append_assoc, evM_app, ih]
      show evM l hh kk s t [nI 3000] ((if k % 2 = 1 then -x else x) :: st) = _
      rw [evM_c, if_pos (show nI 3000 = 3000 from rfl)]
      show some ((-(if k % 2 = 1 then -x else x)) :: st) = _
      by_cases q : k % 2 = 1
      · rw [if_pos q, if_neg (show ¬ (k + 1) % 2 = 1 by omega), Int32.neg_neg]
      · rw [if_neg q, if_pos (show (k + 1) % 2 = 1 by omega)]
  refine ⟨if k % 2 = 1 then -x else x, fun st => ?_, key k⟩
  rw [evC_app, e1]
  show evC l hh kk s t _ (x :: st) = _
  by_cases q : k % 2 = 1
  · rw [if_pos q, if_pos q, evC_c, if_pos (show nI 126 = 126 from rfl)]; rfl
  · rw [if_neg q, if_neg q]; rfl
theorem Vl_op {c1 m1 c2 m2 : List Int32} {x y : Int32} (h1 : Vl c1 m1) (h2 : Vl c2 m2) (hx : ¬ x = 126) (hx2 : ¬ 1000 ≤ x) (hx3 : isNm x = false) (hy : ¬ y = 3000) (hy2 : 2000 ≤ y) (hj : ∀ a b, jnC x a b = wkM (y - 2000) a b) : Vl (c1 ++ c2 ++ [x]) (m1 ++ m2 ++ [y]) := by
  intro l hh kk s t a1 a2 a3 a4
  obtain ⟨z, e1, e2⟩ := h1 l hh kk s t a1 a2 a3 a4
  obtain ⟨w, e3, e4⟩ := h2 l hh kk s t a1 a2 a3 a4
  refine ⟨jnC x z w, fun st => ?_, fun st => ?_⟩
  · rw [evC_app, evC_app, e1]
    show (evC l hh kk s t c2 (z :: st)).bind _ = _
    rw [e3]
    show evC l hh kk s t [x] (w :: z :: st) = _
    rw [evC_c, if_neg hx, if_neg hx2, hx3, if_neg (by decide)]; rfl
  · rw [evM_app, evM_app, e2]
    show (evM l hh kk s t m2 (z :: st)).bind _ = _
    rw [e4]
    show evM l hh kk s t [y] (w :: z :: st) = _
    rw [evM_c, if_neg hy, if_pos hy2, hj]; rfl
theorem nm3r : ∀ a : Nat, a < 256 → ∀ b : Nat, b < 8 → (ush (nI a) (nI b)) &&& 1 = (nI a >>> (nI b &&& 31)) &&& 1 := by decide +kernel
theorem Vl_nm {x y : Int32} (hx : ¬ x = 126) (hx2 : ¬ 1000 ≤ x) (hx3 : isNm x = true) (hy : ¬ y = 3000) (hy2 : ¬ 2000 ≤ y) (hy3 : 1000 ≤ y) (hy4 : ¬ 1005 < y) (hj : ∀ l h k s t : Int32, (∃ a : Nat, a < 256 ∧ h = nI a) → (∃ a : Nat, a < 8 ∧ k = nI a) → nmC x l h k s t = nmM (y - 1000) l h k s t) : Vl [x] [y] := by
  intro l h k s t a1 a2 a3 a4
  refine ⟨nmC x l h k s t, fun st => ?_, fun st => ?_⟩
  · rw [evC_c, if_neg hx, if_neg hx2, hx3, if_pos rfl]; rfl
  · rw [evM_c, if_neg hy, if_neg hy2, if_pos hy3, if_neg hy4, ← hj l h k s t a2 a3]; rfl
theorem Vl_name {j : Nat} (h : amO n mo c 2 p = some j) : Vl [nI (c p)] [nI (1000 + j)] := by
  unfold amO at h
  by_cases q : p < min n mo
  · rw [if_pos q] at h
    obtain ⟨h1, h2⟩ := fs_lt h
    have h2' := of_decide_eq_true h2
    have hj : j < 6 := h1
    rcases (show j = 0 ∨ j = 1 ∨ j = 2 ∨ j = 3 ∨ j = 4 ∨ j = 5 by omega) with rfl | rfl | rfl | rfl | rfl | rfl
    · rw [← h2']; exact Vl_nm (by decide) (by decide) (by decide) (by decide) (by decide) (by decide) (by decide) (fun l h k s t _ _ => rfl)
    · rw [← h2']; exact Vl_nm (by decide) (by decide) (by decide) (by decide) (by decide) (by decide) (by decide) (fun l h k s t _ _ => rfl)
    · rw [← h2']; exact Vl_nm (by decide) (by decide) (by decide) (by decide) (by decide) (by decide) (by decide) (fun l h k s t _ _ => rfl)
    · rw [← h2']; exact Vl_nm (by decide) (by decide) (by decide) (by decide) (by decide) (by decide) (by decide) (fun l h k s t ⟨a, ha, ea⟩ ⟨b, hb, eb⟩ => by
        subst ea; subst eb; exact nm3r a ha b hb)
    · rw [← h2']; exact Vl_nm (by decide) (by decide) (by decide) (by decide) (by decide) (by decide) (by decide) (fun l h k s t _ _ => rfl)
    · rw [← h2']; exact Vl_nm (by decide) (by decide) (by decide) (by decide) (by decide) (by decide) (by decide) (fun l h k s t _ _ => rfl)
  · rw [if_neg q] at h; cases h
theorem Vl_sg {c1 m1 c2 m2 : List Int32} {ix bs j : Nat} (hix : (ix = 3 ∧ bs = 2000) ∨ (ix = 4 ∧ bs = 2003) ∨ (ix = 5 ∧ bs = 2005)) (h : amO n mo c ix p = some j) (h1 : Vl c1 m1) (h2 : Vl c2 m2) : Vl (c1 ++ c2 ++ [nI (c p)]) (m1 ++ m2 ++ [nI (bs + j)]) := by
  unfold amO at h
  by_cases q : p < min n mo
  · rw [if_pos q] at h
    obtain ⟨e1, e2⟩ := fs_lt h
    have e2' := of_decide_eq_true e2
    rcases hix with ⟨rfl, rfl⟩ | ⟨rfl, rfl⟩ | ⟨rfl, rfl⟩
    · have hj : j < 3 := e1
      rcases (show j = 0 ∨ j = 1 ∨ j = 2 by omega) with rfl | rfl | rfl <;> rw [← e2'] <;> exact Vl_op h1 h2 (by decide) (by decide) (by decide) (by decide) (by decide) (fun a b => rfl)
    · have hj : j < 2 := e1
      rcases (show j = 0 ∨ j = 1 by omega) with rfl | rfl <;> rw [← e2'] <;> exact Vl_op h1 h2 (by decide) (by decide) (by decide) (by decide) (by decide) (fun a b => rfl)
    · have hj : j < 2 := e1
      rcases (show j = 0 ∨ j = 1 by omega) with rfl | rfl <;> rw [← e2'] <;> exact Vl_op h1 h2 (by decide) (by decide) (by decide) (by decide) (by decide) (fun a b => rfl)
  · rw [if_neg q] at h; cases h
/-- a reading stays in the text; a whole one has a worth and no more codes than signs -/
def Gd (M q : Nat) (r : RuR) : Prop := q ≤ r.1 ∧ r.1 ≤ M ∧ (r.2.1 = true → q < r.1 ∧ Vl r.2.2.1 r.2.2.2 ∧ 1 ≤ r.2.2.1.length ∧ r.2.2.1.length ≤ r.1 - q ∧ 1 ≤ r.2.2.2.length ∧ r.2.2.2.length ≤ r.1 - q)
theorem ht_lt {s : Nat} (h : htB n mo c p s = true) : p < min n mo := by
  unfold htB at h
  rw [Bool.and_eq_true] at h
  exact of_decide_eq_true h.1
theorem isd_hp (h : isd n mo c p = true) : p < min n mo ∧ 48 ≤ c p ∧ c p < 58 := by
  unfold isd at h
  cases ho : sgO n mo c 48 10 p with
  | none => rw [ho] at h; cases h
  | some x =>
    obtain ⟨a, b, d, _⟩ := sg_hp ho
    exact ⟨a, b, d⟩
theorem nu_hp (h : isd n mo c p = true) : 1 ≤ nuL n mo c p ∧ nuL n mo c p ≤ 3 ∧ p + nuL n mo c p ≤ min n mo ∧ nuV c p (nuL n mo c p) < 1000 := by
  obtain ⟨a0, a1, a2⟩ := isd_hp h
  unfold nuL
  by_cases q1 : isd n mo c (p + 1) = true
  · obtain ⟨b0, b1, b2⟩ := isd_hp q1
    rw [if_pos q1]
    by_cases q2 : isd n mo c (p + 2) = true
    · obtain ⟨d0, d1, d2⟩ := isd_hp q2
      rw [if_pos q2]
      refine ⟨by decide, by decide, (by omega), ?_⟩
      show ((0 * 10 + (c (p + 0) - 48)) * 10 + (c (p + 1) - 48)) * 10 + (c (p + 2) - 48) < 1000
      rw [Nat.add_zero]; omega
    · rw [if_neg q2]
      refine ⟨by decide, by decide, (by omega), ?_⟩
      show (0 * 10 + (c (p + 0) - 48)) * 10 + (c (p + 1) - 48) < 1000
      rw [Nat.add_zero]; omega
  · rw [if_neg q1]
    refine ⟨by decide, by decide, (by omega), ?_⟩
    show 0 * 10 + (c (p + 0) - 48) < 1000
    rw [Nat.add_zero]; omega
theorem am_p {ix j : Nat} (h : amO n mo c ix p = some j) : p < min n mo := by
  unfold amO at h
  by_cases q : p < min n mo
  · exact q
  · rw [if_neg q] at h; cases h
theorem op_gd {pc : Nat → RuR} {d q : Nat} (hpc : ∀ q, q ≤ min n mo → Gd (min n mo) q (pc q)) (hq : q ≤ min n mo) : Gd (min n mo) q (opR n mo c pc d q) := by
  unfold opR
  by_cases q1 : htB n mo c q 40 = true
  · have hl := ht_lt q1
    rw [if_pos q1]
    by_cases q2 : 4 ≤ d
    · rw [if_pos q2]; exact ⟨Nat.le_refl _, hq, fun h => by cases h⟩
    · rw [if_neg q2]
      obtain ⟨g1, g2, g3⟩ := hpc (q + 1) hl
      by_cases q3 : ((pc (q + 1)).2.1 && htB n mo c (pc (q + 1)).1 41) = true
      · rw [if_pos q3]
        rw [Bool.and_eq_true] at q3
        have hl2 := ht_lt q3.2
        obtain ⟨k1, k2, k3, k4, k5, k6⟩ := g3 q3.1
        refine ⟨?_, ?_, fun _ => ⟨?_, k2, k3, ?_, k5, ?_⟩⟩
        · show q ≤ (pc (q + 1)).1 + 1
          omega
        · show (pc (q + 1)).1 + 1 ≤ _
          omega
        · show q < (pc (q + 1)).1 + 1
          omega
        · show (pc (q + 1)).2.2.1.length ≤ (pc (q + 1)).1 + 1 - q
          omega
        · show (pc (q + 1)).2.2.2.length ≤ (pc (q + 1)).1 + 1 - q
          omega
      · rw [if_neg q3]
        refine ⟨?_, g2, fun h => by cases h⟩
        show q ≤ (pc (q + 1)).1
        omega
  · rw [if_neg q1]
    by_cases q2 : isd n mo c q = true
    · rw [if_pos q2]
      obtain ⟨a1, a2, a3, a4⟩ := nu_hp q2
      refine ⟨Nat.le_add_right _ _, a3, fun _ => ⟨?_, Vl_num a4, Nat.le_refl 1, ?_, Nat.le_refl 1, ?_⟩⟩
      · show q < q + nuL n mo c q
        omega
      · show 1 ≤ q + nuL n mo c q - q
        omega
      · show 1 ≤ q + nuL n mo c q - q
        omega
    · rw [if_neg q2]
      cases ho : amO n mo c 2 q with
      | none => exact ⟨Nat.le_refl _, hq, fun h => by cases h⟩
      | some j =>
        have := am_p ho
        refine ⟨Nat.le_succ _, this, fun _ => ⟨Nat.lt_succ_self _, Vl_name ho, Nat.le_refl 1, ?_, Nat.le_refl 1, ?_⟩⟩
        · show 1 ≤ q + 1 - q
          omega
        · show 1 ≤ q + 1 - q
          omega
theorem mn_le {f : Nat} : ∀ q, q ≤ min n mo → q + mnN n mo c f q ≤ min n mo := by
  induction f with
  | zero => intro q h; exact h
  | succ f ih =>
    intro q h
    rw [mnN]
    by_cases w : htB n mo c q 45 = true
    · rw [if_pos w]
      have := ih (q + 1) (ht_lt w)
      omega
    · rw [if_neg w]; exact h
theorem ng_gd {pc : Nat → RuR} {d q : Nat} (hpc : ∀ q, q ≤ min n mo → Gd (min n mo) q (pc q)) (hq : q ≤ min n mo) : Gd (min n mo) q (ngR n mo c pc d q) := by
  have hm := mn_le (c := c) (f := 40) q hq
  obtain ⟨g1, g2, g3⟩ := op_gd (c := c) (d := d) hpc hm
  unfold ngR
  generalize mnN n mo c 40 q = k at *
  generalize opR n mo c pc d (q + k) = r at *
  refine ⟨?_, g2, fun h => ?_⟩
  · show q ≤ r.1
    omega
  · obtain ⟨k1, k2, k3, k4, k5, k6⟩ := g3 h
    refine ⟨?_, Vl_neg k2 k, ?_, ?_, ?_, ?_⟩
    · show q < r.1
      omega
    · show 1 ≤ (r.2.2.1 ++ _).length
      rw [List.length_append]; omega
    · show (r.2.2.1 ++ (if k % 2 = 1 then [nI 126] else [])).length ≤ r.1 - q
      rw [List.length_append]
      by_cases w : k % 2 = 1
      · rw [if_pos w]
        show r.2.2.1.length + 1 ≤ _
        omega
      · rw [if_neg w]
        show r.2.2.1.length + 0 ≤ _
        omega
    · show 1 ≤ (r.2.2.2 ++ _).length
      rw [List.length_append]; omega
    · show (r.2.2.2 ++ List.replicate k (nI 3000)).length ≤ r.1 - q
      rw [List.length_append, List.length_replicate]; omega
theorem ch_gd {sub : Nat → RuR} {ix bs : Nat} (hix : (ix = 3 ∧ bs = 2000) ∨ (ix = 4 ∧ bs = 2003) ∨ (ix = 5 ∧ bs = 2005)) (hs : ∀ q, q ≤ min n mo → Gd (min n mo) q (sub q)) {q : Nat} : ∀ f a, Gd (min n mo) q a → Gd (min n mo) q (chR n mo c sub ix bs f a)
  | 0, a, h => h
  | f + 1, a, h => by
    rw [chR]
    by_cases w : a.2.1 = true
    · rw [if_pos w]
      cases ho : amO n mo c ix a.1 with
      | none => exact h
      | some j =>
        refine ch_gd hix hs f _ ?_
        have hl := am_p ho
        obtain ⟨g1, g2, g3⟩ := hs (a.1 + 1) hl
        obtain ⟨h1, h2, h3⟩ := h
        obtain ⟨k1, k2, k3, k4, k5, k6⟩ := h3 w
        generalize sub (a.1 + 1) = b at *
        refine ⟨?_, g2, fun hb => ?_⟩
        · show q ≤ b.1
          omega
        · obtain ⟨l1, l2, l3, l4, l5, l6⟩ := g3 hb
          refine ⟨?_, Vl_sg hix ho k2 l2, ?_, ?_, ?_, ?_⟩
          · show q < b.1
            omega
          · show 1 ≤ (a.2.2.1 ++ b.2.2.1 ++ [_]).length
            rw [List.length_append, List.length_append]; omega
          · show (a.2.2.1 ++ b.2.2.1 ++ [_]).length ≤ b.1 - q
            rw [List.length_append, List.length_append, List.length_singleton]; omega
          · show 1 ≤ (a.2.2.2 ++ b.2.2.2 ++ [_]).length
            rw [List.length_append, List.length_append]; omega
          · show (a.2.2.2 ++ b.2.2.2 ++ [_]).length ≤ b.1 - q
            rw [List.length_append, List.length_append, List.length_singleton]; omega
    · rw [if_neg w]; exact h
theorem pd_gd {pc : Nat → RuR} {d q : Nat} (hpc : ∀ q, q ≤ min n mo → Gd (min n mo) q (pc q)) (hq : q ≤ min n mo) : Gd (min n mo) q (pdR n mo c pc d q) := ch_gd (Or.inr (Or.inr ⟨rfl, rfl⟩)) (fun _ h => ng_gd hpc h) 40 _ (ng_gd hpc hq)
theorem sm_gd {pc : Nat → RuR} {d q : Nat} (hpc : ∀ q, q ≤ min n mo → Gd (min n mo) q (pc q)) (hq : q ≤ min n mo) : Gd (min n mo) q (smR n mo c pc d q) := ch_gd (Or.inr (Or.inl ⟨rfl, rfl⟩)) (fun _ h => pd_gd hpc h) 40 _ (pd_gd hpc hq)
theorem cp_gd {pc : Nat → RuR} {d q : Nat} (hpc : ∀ q, q ≤ min n mo → Gd (min n mo) q (pc q)) (hq : q ≤ min n mo) : Gd (min n mo) q (cpR n mo c pc d q) := ch_gd (Or.inl ⟨rfl, rfl⟩) (fun _ h => sm_gd hpc h) 1 _ (sm_gd hpc hq)
theorem ru_gd : ∀ k d q, q ≤ min n mo → Gd (min n mo) q (ruR n mo c k d q)
  | 0, _, _, h => ⟨Nat.le_refl _, h, fun h => by cases h⟩
  | k + 1, d, _, h => cp_gd (fun q h => ru_gd k (d + 1) q h) h
