/-! things: the model -/
variable {D : DD} {m m' : MM} {e r : Nat} {u v : US} {n mo p : Nat} {c : Nat → Nat} {ok : Bool}
def mV (ok : Bool) (a : Nat) : Int32 := if ok = true then nI a else -1
theorem hV_mV {o : Option Nat} {a : Nat} (h : ∀ x, o = some x → x = a) : hV o = mV o.isSome a := by
  cases o with
  | none => rfl
  | some x => rw [h x rfl]; rfl
abbrev Fth (w v : US) : Prop := Fm [(47, 19), (47, 23)] [58] [] w v
theorem th116 {i : Nat} (hi : i < 8) {a : Nat} (ha : a < 16) {w : US} : ∃ v, fX12_readsThing_116 (nI (4 * i)) (nI (4 * i + 3)) (mV ok a) w = some (bI ok, v) ∧ v = sI (sA w 58 (nI (4 * i + 3)) (mV ok a)) 47 23 (gI w 47 23 + 1) := by
  unfold fX12_readsThing_116
  have i1 := inb_nI (show 4 * i + 3 < 32 by omega) (show 32 < 2 ^ 31 by decide)
  rw [gd_t i1, nxs, nxs, show nI (4 * i) + 3 = nI (4 * i + 3) from nI_add (4 * i) 3, gd_t i1]
  have eg : gA (sI (sA w 58 (nI (4 * i + 3)) (mV ok a)) 47 23 (gI (sA w 58 (nI (4 * i + 3)) (mV ok a)) 47 23 + 1)) 58 (nI (4 * i + 3)) = mV ok a := by
    show upd (w.2.1 58) (nI (4 * i + 3)).toNatClampNeg (mV ok a) (nI (4 * i + 3)).toNatClampNeg = _
    rw [pk_us]
  rw [eg]
  cases ok with
  | false => rw [if_pos (show mV false a < 0 from (show (-1 : Int32) < 0 by decide))]; exact ⟨_, rfl, rfl⟩
  | true => rw [if_neg (show ¬ mV true a < 0 from nI_pos (n := a) (by omega))]; exact ⟨_, rfl, rfl⟩
theorem th87 (ht : Tok n mo c) {i : Nat} (hi : i < 8) {s : Nat × Bool} {a : Nat} (ha : a < 100) {w : US} (h : Rm n mo c s.1 w) : ∃ v, fX12_readsThing_87 (nI (4 * i)) (nI (4 * i + 2)) (mV s.2 a) w = some (bI (stp (amO n mo c 1 s.1) s).2, v) ∧ Rm n mo c (stp (amO n mo c 1 s.1) s).1 v ∧ gI v 47 23 = gI w 47 23 + 1 ∧ v.2.1 58 = upd (upd (w.2.1 58) (4 * i + 2) (mV s.2 a)) (4 * i + 3) (mV (stp (amO n mo c 1 s.1) s).2 (hdV (amO n mo c 1 s.1) s.2)) ∧ Fth w v := by
  unfold fX12_readsThing_87
  have i1 := inb_nI (show 4 * i + 2 < 32 by omega) (show 32 < 2 ^ 31 by decide)
  rw [gd_t i1, nxs, show nI (4 * i) + 2 = nI (4 * i + 2) from nI_add (4 * i) 2, show nI (4 * i) + 3 = nI (4 * i + 3) from nI_add (4 * i) 3, gd_t i1]
  have eg : gA (sA w 58 (nI (4 * i + 2)) (mV s.2 a)) 58 (nI (4 * i + 2)) = mV s.2 a := by
    show upd (w.2.1 58) (nI (4 * i + 2)).toNatClampNeg _ (nI (4 * i + 2)).toNatClampNeg = _
    rw [pk_us]
  rw [eg]
  obtain ⟨y, hy⟩ : ∃ y, y = sA w 58 (nI (4 * i + 2)) (mV s.2 a) := ⟨_, rfl⟩
  rw [← hy]
  have m1 : Rm n mo c s.1 y := by rw [hy]; exact h.fm (a := []) (b := [58]) (d := []) (Fm.rf.sA rfl) rfl rfl
  have y58 : y.2.1 58 = upd (w.2.1 58) (4 * i + 2) (mV s.2 a) := by
    rw [hy]
    show upd (w.2.1 58) (nI (4 * i + 2)).toNatClampNeg _ = _
    rw [nI_clamp (by omega)]
  have fy : Fth w y := by rw [hy]; exact Fm.rf.sA rfl
  have y23 : gI y 47 23 = gI w 47 23 := by rw [hy]; rfl
  obtain ⟨p, ok⟩ := s
  cases ok with
  | false =>
    rw [if_neg (show ¬ 0 ≤ mV false a from (show ¬ (0 : Int32) ≤ -1 by decide)), show stp (amO n mo c 1 p) (p, false) = (p, false) from sg_f rfl]
    obtain ⟨v, e1, ev⟩ := th116 (ok := false) hi (a := hdV (amO n mo c 1 p) false) (show 4 < 16 by decide) (w := y)
    rw [show (-1 : Int32) = mV false (hdV (amO n mo c 1 p) false) from rfl, e1]
    refine ⟨v, rfl, ?_, ?_, ?_, ?_⟩
    · rw [ev]; exact m1.fm (a := [(47, 23)]) (b := [58]) (d := []) ((Fm.rf.sA rfl).sI rfl) rfl rfl
    · rw [ev, ← y23]; rfl
    · rw [ev]
      show upd (y.2.1 58) (nI (4 * i + 3)).toNatClampNeg _ = _
      rw [nI_clamp (by omega), y58]
    · rw [ev]; exact (fy.sA rfl).sI rfl
  | true =>
    obtain ⟨v1, e1, r1, f1⟩ := takes_m ht m1 (j := 1) (by decide)
    rw [if_pos (show 0 ≤ mV true a from nI_pos' (n := a) (by omega)), show fX12_takesOf 101 y = fX12_takesOf (100 + 1) y from rfl, e1, oBs]
    have hs2 : (stp (amO n mo c 1 p) (p, true)).2 = (amO n mo c 1 p).isSome := by
      show sgK _ true = _
      unfold sgK; rw [Bool.true_and]
    have hh : hV (amO n mo c 1 p) = mV (stp (amO n mo c 1 p) (p, true)).2 (hdV (amO n mo c 1 p) true) := by
      rw [hs2]
      exact hV_mV (fun x hx => by unfold hdV; rw [hx]; rfl)
    have hlt : hdV (amO n mo c 1 p) true < 16 := by
      unfold hdV
      rw [if_pos rfl]
      cases ho : amO n mo c 1 p with
      | none => decide
      | some x => have := am5_lt ho; show x < 16; omega
    rw [show (p, true).1 = p from rfl] at *
    rw [hh]
    obtain ⟨v, e2, ev⟩ := th116 (ok := (stp (amO n mo c 1 p) (p, true)).2) hi (a := hdV (amO n mo c 1 p) true) hlt (w := v1)
    rw [e2]
    refine ⟨v, rfl, ?_, ?_, ?_, ?_⟩
    · rw [ev]
      have : Rm n mo c (stp (amO n mo c 1 p) (p, true)).1 v1 := by
        rw [← adv_stp]; exact r1
      exact this.fm (a := [(47, 23)]) (b := [58]) (d := []) ((Fm.rf.sA rfl).sI rfl) rfl rfl
    · rw [ev, ← y23]
      show gI v1 47 23 + 1 = _
      rw [show gI v1 47 23 = gI y 47 23 from f1.i 47 23 rfl]
    · rw [ev]
      show upd (v1.2.1 58) (nI (4 * i + 3)).toNatClampNeg _ = _
      rw [nI_clamp (by omega), f1.a 58 rfl, y58]
    · rw [ev]; exact ((fy.trans (f1.mono rfl rfl rfl)).sA rfl).sI rfl
theorem th60 (ht : Tok n mo c) {R C i : Nat} (hi : i < 8) {s : Nat × Bool} {a : Nat} (ha : a < 100) {w : US} (h : Rm n mo c s.1 w) (hR : gI w 47 3 = nI R) (hC : gI w 47 4 = nI C) (hR1 : 1 ≤ R) (hR6 : R ≤ 6) (hC1 : 1 ≤ C) (hC6 : C ≤ 6) : ∃ v, fX12_readsThing_60 (nI (4 * i)) (nI (4 * i + 1)) (mV s.2 a) w = some (bI (stp (amO n mo c 1 (fS2 n mo c R C s).1) (fS2 n mo c R C s)).2, v) ∧ Rm n mo c (stp (amO n mo c 1 (fS2 n mo c R C s).1) (fS2 n mo c R C s)).1 v ∧ gI v 47 23 = gI w 47 23 + 1 ∧ v.2.1 58 = upd (upd (upd (w.2.1 58) (4 * i + 1) (mV s.2 a)) (4 * i + 2) (mV (fS2 n mo c R C s).2 (fVl n mo c R C s))) (4 * i + 3) (mV (stp (amO n mo c 1 (fS2 n mo c R C s).1) (fS2 n mo c R C s)).2 (hdV (amO n mo c 1 (fS2 n mo c R C s).1) (fS2 n mo c R C s).2)) ∧ Fth w v := by
  unfold fX12_readsThing_60
  have i1 := inb_nI (show 4 * i + 1 < 32 by omega) (show 32 < 2 ^ 31 by decide)
  rw [gd_t i1, nxs, nI_1, show nI (4 * i) + 2 = nI (4 * i + 2) from nI_add (4 * i) 2, gd_t i1]
  have eg : gA (sA w 58 (nI (4 * i + 1)) (mV s.2 a)) 58 (nI (4 * i + 1)) = mV s.2 a := by
    show upd (w.2.1 58) (nI (4 * i + 1)).toNatClampNeg _ (nI (4 * i + 1)).toNatClampNeg = _
    rw [pk_us]
  rw [eg]
  obtain ⟨y, hy⟩ : ∃ y, y = sA w 58 (nI (4 * i + 1)) (mV s.2 a) := ⟨_, rfl⟩
  rw [← hy]
  have m1 : Rm n mo c s.1 y := by rw [hy]; exact h.fm (a := []) (b := [58]) (d := []) (Fm.rf.sA rfl) rfl rfl
  have y58 : y.2.1 58 = upd (w.2.1 58) (4 * i + 1) (mV s.2 a) := by
    rw [hy]
    show upd (w.2.1 58) (nI (4 * i + 1)).toNatClampNeg _ = _
    rw [nI_clamp (by omega)]
  have fy : Fth w y := by rw [hy]; exact Fm.rf.sA rfl
  have y23 : gI y 47 23 = gI w 47 23 := by rw [hy]; rfl
  have yR : gI y 47 3 = nI R := by rw [hy]; exact hR
  have yC : gI y 47 4 = nI C := by rw [hy]; exact hC
  obtain ⟨p, ok⟩ := s
  have hvl : (fS2 n mo c R C (p, ok)).2 = true → fVl n mo c R C (p, ok) < 100 := fun hk => by
    have := f_lt hk
    have : R * C ≤ 36 := Nat.mul_le_mul hR6 hC6
    omega
  cases ok with
  | false =>
    have e0 : fS2 n mo c R C (p, false) = (p, false) := by
      unfold fS2 fS1
      rw [sg_f (o := sgO n mo c 48 R (p, false).1) (s := (p, false)) rfl]; exact sg_f rfl
    rw [if_neg (show ¬ 0 ≤ mV false a from (show ¬ (0 : Int32) ≤ -1 by decide)), e0]
    obtain ⟨v, e1, r1, t1, q1, f1⟩ := th87 ht hi (s := (p, false)) (a := 0) (by decide) m1
    rw [show (-1 : Int32) = mV (p, false).2 0 from rfl, e1]
    exact ⟨v, rfl, r1, t1.trans (by rw [y23]), by rw [q1, y58]; rfl, fy.trans f1⟩
  | true =>
    obtain ⟨v1, e1, r1, f1⟩ := field_m ht m1 yR yC hR1 hR6 hC1 hC6
    rw [if_pos (show 0 ≤ mV true a from nI_pos' (n := a) (by omega)), e1, oBs]
    have hx : (if (fS2 n mo c R C (p, true)).2 = true then nI (fVl n mo c R C (p, true)) else -1) = mV (fS2 n mo c R C (p, true)).2 (if (fS2 n mo c R C (p, true)).2 = true then fVl n mo c R C (p, true) else 0) := by
      unfold mV
      by_cases w : (fS2 n mo c R C (p, true)).2 = true
      · rw [if_pos w, if_pos w, if_pos w]
      · rw [if_neg w, if_neg w]
    have hx2 : mV (fS2 n mo c R C (p, true)).2 (if (fS2 n mo c R C (p, true)).2 = true then fVl n mo c R C (p, true) else 0) = mV (fS2 n mo c R C (p, true)).2 (fVl n mo c R C (p, true)) := by rw [← hx]; rfl
    have hlt : (if (fS2 n mo c R C (p, true)).2 = true then fVl n mo c R C (p, true) else 0) < 100 := by
      by_cases w : (fS2 n mo c R C (p, true)).2 = true
      · rw [if_pos w]; exact hvl w
      · rw [if_neg w]; decide
    obtain ⟨v, e2, r2, t2, q2, f2⟩ := th87 ht hi (s := fS2 n mo c R C (p, true)) hlt r1
    rw [hx, e2]
    exact ⟨v, rfl, r2, t2.trans (by rw [show gI v1 47 23 = gI y 47 23 from f1.i 47 23 rfl, y23]), by rw [q2, hx2, f1.a 58 rfl, y58], (fy.trans (f1.mono rfl rfl rfl)).trans f2⟩
