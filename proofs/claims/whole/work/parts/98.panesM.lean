/-! panes: the model, and both sides -/
variable {D : DD} {m m' : MM} {e r : Nat} {u v : US} {n mo p : Nat} {c : Nat → Nat} {ok : Bool}
def PaM (n mo : Nat) (c : Nat → Nat) (f : Nat → Int32) (i : Nat) : Prop := ∀ j, j < i → f (2 * j) = nI (paD n mo c (stN (paS n mo c) j)) ∧ f (2 * j + 1) = nI (paL n mo c (stN (paS n mo c) j))
theorem pane58 {i : Nat} (hi : i < 8) {o : Option Nat} (ho : ∀ x, o = some x → x < 10) {x : Int32} {w : US} (hw : w.2.1 58 (2 * i) = hV o) : fX12_readsPane_58 (nI (2 * i)) (nI (2 * i + 1)) x w = some (bI o.isSome, sI (sA w 58 (nI (2 * i + 1)) x) 47 23 (gI w 47 23 + 1)) := by
  unfold fX12_readsPane_58
  have i1 := inb_nI (show 2 * i + 1 < 32 by omega) (show 32 < 2 ^ 31 by decide)
  have i0 := inb_nI (show 2 * i < 32 by omega) (show 32 < 2 ^ 31 by decide)
  rw [gd_t i1, nxs, nxs, gd_t i0]
  have eg : gA (sI (sA w 58 (nI (2 * i + 1)) x) 47 23 (gI (sA w 58 (nI (2 * i + 1)) x) 47 23 + 1)) 58 (nI (2 * i)) = hV o := by
    show upd (w.2.1 58) (nI (2 * i + 1)).toNatClampNeg x (nI (2 * i)).toNatClampNeg = hV o
    rw [nI_clamp (by omega), nI_clamp (by omega), pk_un (by omega)]; exact hw
  rw [eg]
  cases o with
  | none => rw [if_pos hV_neg]; rfl
  | some y => rw [if_neg (show ¬ hV (some y) < 0 from nI_pos (n := y) (by have := ho y rfl; omega))]; rfl
theorem pane_m (ht : Tok n mo c) {b i q : Nat} {w : US} (h : Rm n mo c q w) (hb : gI w 47 6 = nI b) (h23 : gI w 47 23 = nI i) (hbi : b + i < 8) : ∃ v, fX12_readsLine 1 w = some (bI (paS n mo c q).2, v) ∧ Rm n mo c (paS n mo c q).1 v ∧ gI v 47 23 = nI (i + 1) ∧ (∀ j, j < 2 * i → v.2.1 58 j = w.2.1 58 j) ∧ ((paS n mo c q).2 = true → v.2.1 58 (2 * i) = nI (paD n mo c q) ∧ v.2.1 58 (2 * i + 1) = nI (paL n mo c q)) ∧ Fm [(47, 19), (47, 23)] [58] [] w v := by
  obtain ⟨v1, e1, m1, f1⟩ := num1_m ht h
  have i0 := inb_nI (show 2 * i < 32 by omega) (show 32 < 2 ^ 31 by decide)
  have e2i : (2 : Int32) * nI i = nI (2 * i) := pk_mul 2 i
  have hne : ¬ nI b + nI i = 8 := by rw [nI_add]; exact fun x => (by have := congrArg Int32.toInt x; rw [nI_toInt (by omega)] at this; have h4 : (8 : Int32).toInt = 8 := rfl; omega)
  unfold fX12_readsLine
  rw [if_neg (by decide), if_pos rfl]
  unfold fX12_readsPane
  rw [hb, h23, if_neg hne, e1, oBs, e2i, gd_t i0, nxs, gd_t i0, nI_1]
  have eg : (sA v1 58 (nI (2 * i)) (hV (sgO n mo c 48 10 q))).2.1 58 (2 * i) = hV (sgO n mo c 48 10 q) := by
    show upd (v1.2.1 58) (nI (2 * i)).toNatClampNeg _ (2 * i) = _
    rw [nI_clamp (by omega), pk_us]
  have eg2 : gA (sA v1 58 (nI (2 * i)) (hV (sgO n mo c 48 10 q))) 58 (nI (2 * i)) = hV (sgO n mo c 48 10 q) := by
    show (sA v1 58 (nI (2 * i)) (hV (sgO n mo c 48 10 q))).2.1 58 (nI (2 * i)).toNatClampNeg = _
    rw [nI_clamp (by omega)]; exact eg
  rw [eg2]
  have hox : ∀ x, sgO n mo c 48 10 q = some x → x < 10 := fun x hx => by obtain ⟨_, b1, b2, b3⟩ := sg_hp hx; omega
  have m1' : Rm n mo c (paT n mo c q).1 (sA v1 58 (nI (2 * i)) (hV (sgO n mo c 48 10 q))) := by
    rw [show (paT n mo c q).1 = adv (sgO n mo c 48 10 q) q from adv_stp.symm]
    exact m1.fm (a := []) (b := [58]) (d := []) (Fm.rf.sA rfl) rfl rfl
  have ek : (paT n mo c q).2 = (sgO n mo c 48 10 q).isSome := by
    unfold paT
    show sgK _ true = _
    unfold sgK; rw [Bool.true_and]
  have es2 : (paS n mo c q).2 = (sgO n mo c 48 10 q).isSome := ek
  have ed : (sgO n mo c 48 10 q).isSome = true → hV (sgO n mo c 48 10 q) = nI (paD n mo c q) := fun hx => by
    unfold paD
    cases ho : sgO n mo c 48 10 q with
    | none => rw [ho] at hx; cases hx
    | some y => rfl
  have f0 : Fm [(47, 19), (47, 23)] [58] [] w (sA v1 58 (nI (2 * i)) (hV (sgO n mo c 48 10 q))) := (f1.mono rfl rfl rfl).sA rfl
  have lo0 : ∀ j, j < 2 * i → (sA v1 58 (nI (2 * i)) (hV (sgO n mo c 48 10 q))).2.1 58 j = w.2.1 58 j := fun j hj => by
    show upd (v1.2.1 58) (nI (2 * i)).toNatClampNeg _ j = _
    rw [nI_clamp (by omega), pk_un (by omega), f1.a 58 rfl]
  obtain ⟨y, hy⟩ : ∃ y, y = sA v1 58 (nI (2 * i)) (hV (sgO n mo c 48 10 q)) := ⟨_, rfl⟩
  rw [← hy] at m1' f0 lo0 eg ⊢
  cases hk : (sgO n mo c 48 10 q).isSome with
  | false =>
    have hk2 : sgO n mo c 48 10 q = none := by cases ho : sgO n mo c 48 10 q with
      | none => rfl
      | some y => rw [ho] at hk; cases hk
    rw [hk2] at eg
    rw [hk2, if_neg (show ¬ 0 ≤ hV none by decide), pane58 (i := i) (by omega) (fun x hx => by cases hx) eg, oBs, gd_t (isB_bI _)]
    rw [hk] at ek es2
    refine ⟨_, by rw [es2]; rfl, ?_, ?_, fun j hj => ?_, (fun x => by rw [es2] at x; cases x), (f0.sA rfl).sI rfl⟩
    · unfold paS
      rw [ek, if_neg (by decide)]
      exact m1'.fm (a := [(47, 23)]) (b := [58]) (d := []) ((Fm.rf.sA rfl).sI rfl) rfl rfl
    · show gI y 47 23 + 1 = _
      rw [show gI y 47 23 = nI i by rw [hy]; exact (f1.i 47 23 rfl).trans h23, nI_1]
    · show upd (y.2.1 58) (nI (2 * i + 1)).toNatClampNeg _ j = _
      rw [nI_clamp (by omega), pk_un (by omega)]; exact lo0 j hj
  | true =>
    obtain ⟨v2, e2, m2, f2⟩ := letters_m ht m1'
    have hp : 0 ≤ hV (sgO n mo c 48 10 q) := by
      rw [ed hk]
      exact nI_pos' (by
        have : paD n mo c q < 10 := (pa_lt (by rw [es2]; exact hk)).1
        omega)
    rw [if_pos hp, e2, oBs, pane58 (i := i) (x := nI (klP n mo c (paT n mo c q).1 8).2) (by omega) hox (by rw [f2.a 58 rfl]; exact eg), oBs, gd_t (isB_bI _)]
    rw [hk] at ek es2
    have el : paL n mo c q = (klP n mo c (paT n mo c q).1 8).2 := by unfold paL; rw [ek, if_pos rfl]
    refine ⟨_, by rw [es2, hk], ?_, ?_, fun j hj => ?_, (fun x => ⟨?_, ?_⟩), ((f0.trans (f2.mono rfl rfl rfl)).sA rfl).sI rfl⟩
    · unfold paS
      rw [ek, if_pos rfl]
      exact m2.fm (a := [(47, 23)]) (b := [58]) (d := []) ((Fm.rf.sA rfl).sI rfl) rfl rfl
    · show gI v2 47 23 + 1 = _
      rw [show gI v2 47 23 = nI i by rw [show gI v2 47 23 = _ from f2.i 47 23 rfl, hy]; exact (f1.i 47 23 rfl).trans h23, nI_1]
    · show upd (v2.2.1 58) (nI (2 * i + 1)).toNatClampNeg _ j = _
      rw [nI_clamp (by omega), pk_un (by omega), f2.a 58 rfl]; exact lo0 j hj
    · show upd (v2.2.1 58) (nI (2 * i + 1)).toNatClampNeg _ (2 * i) = _
      rw [nI_clamp (by omega), pk_un (by omega), f2.a 58 rfl, eg, ed hk]
    · show upd (v2.2.1 58) (nI (2 * i + 1)).toNatClampNeg _ (2 * i + 1) = _
      rw [nI_clamp (by omega), pk_us, el]
theorem nm_same {a k : Nat} (ha : a < 2 ^ k) (hk : k < 31) : nm a (2 ^ k) = a := by
  have h31 : 2 ^ k ≤ 2 ^ 31 := Nat.pow_le_pow_right (by decide) (by omega)
  apply Nat.eq_of_testBit_eq
  intro i
  rw [nm_tb (by omega), Nat.testBit_two_pow]
  by_cases q : k = i
  · subst q; rw [tb_hi ha (Nat.le_refl _)]; rfl
  · rw [decide_eq_false q]; simp
theorem panes21 {b K bb : Nat} (hb : b + K ≤ 8) (h7 : gI u 47 6 = nI b) (h23 : gI u 47 23 = nI K) (hK : 0 < K) (hbb : bb < 2 ^ b) (h24 : u.2.1 55 24 = nI bb) : ∃ w, fX12_panes_21 FU 0 u = some (nI K, sI (sI w 47 30 0) 47 8 (gI w 47 8 + 1)) ∧ gI w 47 6 = nI (b + K) ∧ (∀ j, j < b → w.2.1 51 j = u.2.1 51 j ∧ w.2.1 52 j = u.2.1 52 j) ∧ (∀ j, j < K → w.2.1 51 (b + j) = u.2.1 58 (2 * j) ∧ w.2.1 52 (b + j) = u.2.1 58 (2 * j + 1) ∧ w.2.1 55 (16 + (b + j)) = -1) ∧ (∀ j, (j < 16 + b ∨ 24 ≤ j) → w.2.1 55 j = u.2.1 55 j) ∧ Fm [(47, 6)] [51, 52, 55] [] u w := by
  refine lpE (fun f (z : Int32) w => fX12_panes_21 f z w) K (fun i => nI i) (fun i w => gI w 47 6 = nI (b + i) ∧ (∀ j, j < b → w.2.1 51 j = u.2.1 51 j ∧ w.2.1 52 j = u.2.1 52 j) ∧ (∀ j, j < i → w.2.1 51 (b + j) = u.2.1 58 (2 * j) ∧ w.2.1 52 (b + j) = u.2.1 58 (2 * j + 1) ∧ w.2.1 55 (16 + (b + j)) = -1) ∧ (∀ j, (j < 16 + b ∨ 24 ≤ j) → w.2.1 55 j = u.2.1 55 j) ∧ Fm [(47, 6)] [51, 52, 55] [] u w) (fun o => ∃ w, o = some (nI K, sI (sI w 47 30 0) 47 8 (gI w 47 8 + 1)) ∧ gI w 47 6 = nI (b + K) ∧ (∀ j, j < b → w.2.1 51 j = u.2.1 51 j ∧ w.2.1 52 j = u.2.1 52 j) ∧ (∀ j, j < K → w.2.1 51 (b + j) = u.2.1 58 (2 * j) ∧ w.2.1 52 (b + j) = u.2.1 58 (2 * j + 1) ∧ w.2.1 55 (16 + (b + j)) = -1) ∧ (∀ j, (j < 16 + b ∨ 24 ≤ j) → w.2.1 55 j = u.2.1 55 j) ∧ Fm [(47, 6)] [51, 52, 55] [] u w) ?_ ?_ (by omega) 0 rfl ⟨h7, fun j hj => ⟨rfl, rfl⟩, fun j hj => absurd hj (Nat.not_lt_zero j), fun _ _ => rfl, Fm.rf⟩
  · rintro f i w hi ⟨p7, plo, phi, p55, pf⟩
    left
    have i0 := inb_nI (show 2 * i < 32 by omega) (show 32 < 2 ^ 31 by decide)
    have i1 := inb_nI (show 2 * i + 1 < 32 by omega) (show 32 < 2 ^ 31 by decide)
    have i4 := inb_nI (show b + i < 8 by omega) (show 8 < 2 ^ 31 by decide)
    have i5 := inb_nI (show 16 + (b + i) < 26 by omega) (show 26 < 2 ^ 31 by decide)
    have e58 : ∀ x, gA w 58 x = gA u 58 x := fun x => congrFun (pf.a 58 rfl) _
    obtain ⟨w3, hw3⟩ : ∃ w3, w3 = sA (sA (sA w 51 (nI (b + i)) (gA w 58 (nI (2 * i)))) 52 (nI (b + i)) (gA (sA w 51 (nI (b + i)) (gA w 58 (nI (2 * i)))) 58 (nI (2 * i + 1)))) 55 (nI (16 + (b + i))) (-1) := ⟨_, rfl⟩
    have g24 : gA w3 55 24 = nI bb := by
      rw [hw3]
      show upd (w.2.1 55) (nI (16 + (b + i))).toNatClampNeg (-1) 24 = _
      rw [nI_clamp (by omega), pk_un (by omega), p55 24 (Or.inr (Nat.le_refl _)), h24]
    have w36 : gI w3 47 6 = nI (b + i) := by rw [hw3]; exact p7
    have hsm : nI bb &&& (((1 : Int32) <<< (nI (b + i) &&& 31)) ^^^ (-1)) = nI bb := by
      rw [sh1 _ (by omega), and_n, nm_same (Nat.lt_of_lt_of_le hbb (Nat.pow_le_pow_right (by decide) (by omega))) (by omega)]
    have est : fX12_panes_21 (f + 1) (nI i) w = fX12_panes_21 f (nI (i + 1)) (sI (sA w3 55 24 (nI bb)) 47 6 (nI (b + i) + 1)) := by
      rw [fX12_panes_21, show gI w 47 23 = nI K from (pf.i 47 23 rfl).trans h23, if_neg (nI_ge hi (by omega)), show (2 : Int32) * nI i = nI (2 * i) from pk_mul 2 i, gd_t i0, p7, gd_t i4, nxs, nI_1, gd_t i1, show gI (sA w 51 (nI (b + i)) (gA w 58 (nI (2 * i)))) 47 6 = nI (b + i) from p7, gd_t i4, nxs, show gI (sA (sA w 51 (nI (b + i)) (gA w 58 (nI (2 * i)))) 52 (nI (b + i)) (gA (sA w 51 (nI (b + i)) (gA w 58 (nI (2 * i)))) 58 (nI (2 * i + 1)))) 47 6 = nI (b + i) from p7, show (16 : Int32) + nI (b + i) = nI (16 + (b + i)) from nI_add 16 (b + i), gd_t i5, nxs, ← hw3, gd_t (show inb 24 26 = true from rfl), g24, w36, hsm, gd_t (show inb 24 26 = true from rfl), nxs, nxs, nI_1, show gI (sA w3 55 24 (nI bb)) 47 6 = nI (b + i) from w36]
    have r51 : (sI (sA w3 55 24 (nI bb)) 47 6 (nI (b + i) + 1)).2.1 51 = upd (w.2.1 51) (b + i) (u.2.1 58 (2 * i)) := by
      rw [hw3]
      show upd (w.2.1 51) (nI (b + i)).toNatClampNeg (gA w 58 (nI (2 * i))) = _
      rw [nI_clamp (by omega), e58]
      show upd _ _ (u.2.1 58 (nI (2 * i)).toNatClampNeg) = _
      rw [nI_clamp (by omega)]
    have r52 : (sI (sA w3 55 24 (nI bb)) 47 6 (nI (b + i) + 1)).2.1 52 = upd (w.2.1 52) (b + i) (u.2.1 58 (2 * i + 1)) := by
      rw [hw3]
      show upd (w.2.1 52) (nI (b + i)).toNatClampNeg (gA w 58 (nI (2 * i + 1))) = _
      rw [nI_clamp (by omega), e58]
      show upd _ _ (u.2.1 58 (nI (2 * i + 1)).toNatClampNeg) = _
      rw [nI_clamp (by omega)]
    have r55 : (sI (sA w3 55 24 (nI bb)) 47 6 (nI (b + i) + 1)).2.1 55 = upd (upd (w.2.1 55) (16 + (b + i)) (-1)) 24 (nI bb) := by
      rw [hw3]
      show upd (upd (w.2.1 55) (nI (16 + (b + i))).toNatClampNeg (-1)) 24 (nI bb) = _
      rw [nI_clamp (by omega)]
    refine ⟨_, ⟨?_, fun j hj => ?_, fun j hj => ?_, fun j hj => ?_, ?_⟩, est⟩
    · show nI (b + i) + 1 = _
      rw [nI_1]; rfl
    · rw [r51, r52, pk_un (by omega), pk_un (by omega)]; exact plo j hj
    · rw [r51, r52, r55, pk_un (show 16 + (b + j) ≠ 24 by omega)]
      by_cases q : j = i
      · subst q; rw [pk_us, pk_us, pk_us]; exact ⟨rfl, rfl, rfl⟩
      · rw [pk_un (by omega), pk_un (by omega), pk_un (by omega)]; exact phi j (by omega)
    · rw [r55]
      by_cases q : j = 24
      · subst q; rw [pk_us, h24]
      · rw [pk_un q, pk_un (by omega)]; exact p55 j hj
    · rw [hw3]; exact ((((pf.sA rfl).sA rfl).sA rfl).sA rfl).sI rfl
  · rintro f w ⟨p7, plo, phi, p55, pf⟩
    have p23 : gI w 47 23 = nI K := (pf.i 47 23 rfl).trans h23
    rw [fX12_panes_21, p23, if_pos (nI_le (Nat.le_refl _) (by omega)), isNew_1 p23 hK (by omega), oBs]
    exact ⟨w, rfl, p7, plo, phi, p55, pf⟩
