/-! rooms: the model -/
variable {D : DD} {m m' : MM} {e r : Nat} {u v : US} {n mo p : Nat} {c : Nat → Nat} {ok : Bool}
def RoM (n mo : Nat) (c : Nat → Nat) (R C : Nat) (f : Nat → Int32) (i : Nat) : Prop := ∀ j, j < i → f (2 * j) = nI (roF n mo c R C (stN (roS n mo c R C) j)) ∧ f (2 * j + 1) = nI (roG n mo c R C (stN (roS n mo c R C) j))
theorem hV_neg : hV none < 0 := by decide
theorem adv_stp {o : Option Nat} {q : Nat} : adv o q = (stp o (q, true)).1 := by cases o <;> rfl
theorem room57 {i : Nat} (hi : i < 4) {o : Option Nat} (ho : ∀ x, o = some x → x < 10) {w : US} : ∃ v, fX12_readsRoom_57 (nI (2 * i)) (nI (2 * i + 1)) (hV o) w = some (bI o.isSome, v) ∧ v = sI (sA w 58 (nI (2 * i + 1)) (hV o)) 47 23 (gI w 47 23 + 1) := by
  unfold fX12_readsRoom_57
  have i1 := inb_nI (show 2 * i + 1 < 32 by omega) (show 32 < 2 ^ 31 by decide)
  rw [gd_t i1, nxs, nxs, nI_1, gd_t i1]
  have eg : gA (sI (sA w 58 (nI (2 * i + 1)) (hV o)) 47 23 (gI (sA w 58 (nI (2 * i + 1)) (hV o)) 47 23 + 1)) 58 (nI (2 * i + 1)) = hV o := by
    show upd (w.2.1 58) (nI (2 * i + 1)).toNatClampNeg (hV o) (nI (2 * i + 1)).toNatClampNeg = hV o
    rw [pk_us]
  rw [eg]
  cases o with
  | none => rw [if_pos hV_neg]; exact ⟨_, rfl, rfl⟩
  | some x => rw [if_neg (show ¬ hV (some x) < 0 from nI_pos (n := x) (by have := ho x rfl; omega))]; exact ⟨_, rfl, rfl⟩
theorem room_m (ht : Tok n mo c) {R C b i q : Nat} {w : US} (h : Rm n mo c q w) (hR : gI w 47 3 = nI R) (hC : gI w 47 4 = nI C) (hb : gI w 47 7 = nI b) (h23 : gI w 47 23 = nI i) (hR1 : 1 ≤ R) (hR6 : R ≤ 6) (hC1 : 1 ≤ C) (hC6 : C ≤ 6) (hbi : b + i < 4) : ∃ v, fX12_readsLine 2 w = some (bI (roS n mo c R C q).2, v) ∧ Rm n mo c (roS n mo c R C q).1 v ∧ gI v 47 23 = nI (i + 1) ∧ (∀ j, j < 2 * i → v.2.1 58 j = w.2.1 58 j) ∧ ((roS n mo c R C q).2 = true → v.2.1 58 (2 * i) = nI (roF n mo c R C q) ∧ v.2.1 58 (2 * i + 1) = nI (roG n mo c R C q)) ∧ Fm [(47, 19), (47, 23)] [58] [] w v := by
  obtain ⟨v1, e1, m1, f1⟩ := field_m ht h hR hC hR1 hR6 hC1 hC6
  have i0 := inb_nI (show 2 * i < 32 by omega) (show 32 < 2 ^ 31 by decide)
  have e2i : (2 : Int32) * nI i = nI (2 * i) := pk_mul 2 i
  have hne : ¬ nI b + nI i = 4 := by rw [nI_add]; exact fun x => (by have := congrArg Int32.toInt x; rw [nI_toInt (by omega)] at this; have h4 : (4 : Int32).toInt = 4 := rfl; omega)
  unfold fX12_readsLine
  rw [if_neg (by decide), if_neg (by decide)]
  unfold fX12_readsRoom
  rw [hb, h23, if_neg hne, e1, oBs, e2i, gd_t i0, nxs, gd_t i0, nI_1]
  have eg : gA (sA v1 58 (nI (2 * i)) (if (fS2 n mo c R C (q, true)).2 = true then nI (fVl n mo c R C (q, true)) else -1)) 58 (nI (2 * i)) = (if (fS2 n mo c R C (q, true)).2 = true then nI (fVl n mo c R C (q, true)) else -1) := by
    show upd (v1.2.1 58) (nI (2 * i)).toNatClampNeg _ (nI (2 * i)).toNatClampNeg = _
    rw [pk_us]
  rw [eg]
  have m1' : Rm n mo c (fS2 n mo c R C (q, true)).1 (sA v1 58 (nI (2 * i)) (if (fS2 n mo c R C (q, true)).2 = true then nI (fVl n mo c R C (q, true)) else -1)) := m1.fm (a := []) (b := [58]) (d := []) (Fm.rf.sA rfl) rfl rfl
  cases hk : (fS2 n mo c R C (q, true)).2 with
  | false =>
    rw [hk] at m1'
    rw [if_neg (show ¬ false = true by decide), if_neg (show ¬ (0 : Int32) ≤ -1 by decide)]
    rw [if_neg (show ¬ false = true by decide)] at m1'
    obtain ⟨v, e3, ev⟩ := room57 (i := i) (by omega) (o := none) (fun x hx => by cases hx) (w := sA v1 58 (nI (2 * i)) (-1))
    have es : roS n mo c R C q = fS2 n mo c R C (q, true) := sg_f hk
    rw [show (-1 : Int32) = hV none from rfl] at e3 ⊢
    rw [e3, oBs, gd_t (isB_bI _), es, hk]
    refine ⟨v, rfl, ?_, ?_, fun j hj => ?_, (fun x => by cases x), ?_⟩
    · rw [ev]; exact m1'.fm (a := [(47, 23)]) (b := [58]) (d := []) ((Fm.rf.sA rfl).sI rfl) rfl rfl
    · rw [ev]
      show gI v1 47 23 + 1 = _
      rw [show gI v1 47 23 = nI i from (f1.i 47 23 rfl).trans h23, nI_1]
    · rw [ev]
      show upd (upd (v1.2.1 58) (nI (2 * i)).toNatClampNeg _) (nI (2 * i + 1)).toNatClampNeg _ j = _
      rw [nI_clamp (by omega), nI_clamp (by omega), pk_un (by omega), pk_un (by omega), f1.a 58 rfl]
    · rw [ev]; exact (((f1.mono rfl rfl rfl).sA rfl).sA rfl).sI rfl
  | true =>
    rw [hk, if_pos rfl] at m1'
    rw [if_pos rfl]
    have hlt := f_lt (n := n) (mo := mo) (c := c) (R := R) (C := C) (s := (q, true)) hk
    have h36 : R * C ≤ 36 := Nat.mul_le_mul hR6 hC6
    rw [if_pos (nI_pos' (n := fVl n mo c R C (q, true)) (by omega))]
    obtain ⟨v2, e2, m2, f2⟩ := num1_m ht m1'
    rw [e2, oBs]
    have e23 : (fS2 n mo c R C (q, true)) = ((fS2 n mo c R C (q, true)).1, true) := Prod.ext rfl hk
    obtain ⟨v, e3, ev⟩ := room57 (i := i) (by omega) (o := sgO n mo c 48 10 (fS2 n mo c R C (q, true)).1) (fun x hx => by obtain ⟨_, b1, b2, b3⟩ := sg_hp hx; omega) (w := v2)
    rw [e3, oBs, gd_t (isB_bI _)]
    have es : (roS n mo c R C q).2 = (sgO n mo c 48 10 (fS2 n mo c R C (q, true)).1).isSome := by
      unfold roS
      show sgK _ (fS2 n mo c R C (q, true)).2 = _
      rw [hk]; unfold sgK; rw [Bool.true_and]
    have es1 : (roS n mo c R C q).1 = adv (sgO n mo c 48 10 (fS2 n mo c R C (q, true)).1) (fS2 n mo c R C (q, true)).1 := by
      unfold roS
      show sgP _ (fS2 n mo c R C (q, true)).1 (fS2 n mo c R C (q, true)).2 = _
      rw [hk]; cases sgO n mo c 48 10 (fS2 n mo c R C (q, true)).1 <;> rfl
    have e58 : v.2.1 58 = upd (upd (w.2.1 58) (2 * i) (nI (fVl n mo c R C (q, true)))) (2 * i + 1) (hV (sgO n mo c 48 10 (fS2 n mo c R C (q, true)).1)) := by
      rw [ev]
      show upd (v2.2.1 58) (nI (2 * i + 1)).toNatClampNeg _ = _
      rw [nI_clamp (by omega), f2.a 58 rfl]
      show upd (upd (v1.2.1 58) (nI (2 * i)).toNatClampNeg _) _ _ = _
      rw [nI_clamp (by omega), f1.a 58 rfl]
    refine ⟨v, by rw [es], ?_, ?_, fun j hj => ?_, fun hx => ?_, ?_⟩
    · rw [ev, es1]; exact m2.fm (a := [(47, 23)]) (b := [58]) (d := []) ((Fm.rf.sA rfl).sI rfl) rfl rfl
    · rw [ev]
      show gI v2 47 23 + 1 = _
      rw [show gI v2 47 23 = nI i from (f2.i 47 23 rfl).trans ((f1.i 47 23 rfl).trans h23), nI_1]
    · rw [e58, pk_un (by omega), pk_un (by omega)]
    · rw [e58]
      obtain ⟨_, x, ex, ex2, _⟩ := sg_y hx
      constructor
      · rw [pk_un (by omega), pk_us]; rfl
      · rw [pk_us]
        unfold roG
        rw [ex2, ex]; rfl
    · rw [ev]; exact ((((f1.mono rfl rfl rfl).sA rfl).trans (f2.mono rfl rfl rfl)).sA rfl).sI rfl
