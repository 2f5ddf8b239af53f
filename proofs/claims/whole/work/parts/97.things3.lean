/-! things: both sides -/
variable {D : DD} {m m' : MM} {e r : Nat} {u v : US} {n mo p : Nat} {c : Nat → Nat} {ok : Bool}
def ThM (n mo : Nat) (c : Nat → Nat) (R C : Nat) (f : Nat → Int32) (i : Nat) : Prop := ∀ j, j < i → f (4 * j) = nI (thK n mo c (stN (thS n mo c R C) j)) ∧ f (4 * j + 1) = nI (thD n mo c (stN (thS n mo c R C) j)) ∧ f (4 * j + 2) = nI (thF n mo c R C (stN (thS n mo c R C) j)) ∧ f (4 * j + 3) = nI (thH n mo c R C (stN (thS n mo c R C) j))
theorem thing_m (ht : Tok n mo c) {R C b i q : Nat} {w : US} (h : Rm n mo c q w) (hR : gI w 47 3 = nI R) (hC : gI w 47 4 = nI C) (hb : gI w 47 5 = nI b) (h23 : gI w 47 23 = nI i) (hR1 : 1 ≤ R) (hR6 : R ≤ 6) (hC1 : 1 ≤ C) (hC6 : C ≤ 6) (hbi : b + i < 8) : ∃ v, fX12_readsLine 0 w = some (bI (thS n mo c R C q).2, v) ∧ Rm n mo c (thS n mo c R C q).1 v ∧ gI v 47 23 = nI (i + 1) ∧ (∀ j, j < 4 * i → v.2.1 58 j = w.2.1 58 j) ∧ ((thS n mo c R C q).2 = true → v.2.1 58 (4 * i) = nI (thK n mo c q) ∧ v.2.1 58 (4 * i + 1) = nI (thD n mo c q) ∧ v.2.1 58 (4 * i + 2) = nI (thF n mo c R C q) ∧ v.2.1 58 (4 * i + 3) = nI (thH n mo c R C q)) ∧ Fm [(47, 19), (47, 23)] [58] [] w v := by
  obtain ⟨v1, e1, m1, f1⟩ := takes_m ht h (j := 0) (by decide)
  rw [am_sg ht] at e1 m1
  have i0 := inb_nI (show 4 * i < 32 by omega) (show 32 < 2 ^ 31 by decide)
  have e4i : (4 : Int32) * nI i = nI (4 * i) := pk_mul 4 i
  have hne : ¬ nI b + nI i = 8 := by rw [nI_add]; exact fun x => (by have := congrArg Int32.toInt x; rw [nI_toInt (by omega)] at this; have h4 : (8 : Int32).toInt = 8 := rfl; omega)
  unfold fX12_readsLine
  rw [if_pos rfl]
  unfold fX12_readsThing
  rw [hb, h23, if_neg hne, show fX12_takesOf 100 w = fX12_takesOf (100 + 0) w from rfl, e1, oBs, e4i, gd_t i0, nxs, gd_t i0, nI_1]
  have s2 : (th1 n mo c q).2 = (sgO n mo c 97 8 q).isSome := by
    show sgK _ true = _
    unfold sgK; rw [Bool.true_and]
  have hv : hV (sgO n mo c 97 8 q) = mV (th1 n mo c q).2 (thK n mo c q) := by
    rw [s2]; exact hV_mV (fun x hx => by unfold thK; rw [hx]; rfl)
  rw [hv]
  have eg : gA (sA v1 58 (nI (4 * i)) (mV (th1 n mo c q).2 (thK n mo c q))) 58 (nI (4 * i)) = mV (th1 n mo c q).2 (thK n mo c q) := by
    show upd (v1.2.1 58) (nI (4 * i)).toNatClampNeg _ (nI (4 * i)).toNatClampNeg = _
    rw [pk_us]
  rw [eg]
  obtain ⟨y, hy⟩ : ∃ y, y = sA v1 58 (nI (4 * i)) (mV (th1 n mo c q).2 (thK n mo c q)) := ⟨_, rfl⟩
  rw [← hy]
  have r1 : Rm n mo c (th1 n mo c q).1 y := by
    rw [hy, show (th1 n mo c q).1 = adv (sgO n mo c 97 8 q) q from adv_stp.symm]
    exact Rm.fm (a := []) (b := [58]) (d := []) m1 (Fm.rf.sA rfl) rfl rfl
  have y58 : y.2.1 58 = upd (w.2.1 58) (4 * i) (mV (th1 n mo c q).2 (thK n mo c q)) := by
    rw [hy]
    show upd (v1.2.1 58) (nI (4 * i)).toNatClampNeg _ = _
    rw [nI_clamp (by omega), f1.a 58 rfl]
  have fy : Fth w y := by rw [hy]; exact (f1.mono rfl rfl rfl).sA rfl
  have y23 : gI y 47 23 = nI i := by rw [hy]; exact (f1.i 47 23 rfl).trans h23
  have yR : gI y 47 3 = nI R := (fy.i 47 3 rfl).trans hR
  have yC : gI y 47 4 = nI C := (fy.i 47 4 rfl).trans hC
  have fin : ∀ (v2 : US) (a : Nat), a < 100 → Rm n mo c (th2 n mo c q).1 v2 → Fdm y v2 → mV (th2 n mo c q).2 a = mV (th2 n mo c q).2 (thD n mo c q) → ∃ v, (oB (fX12_readsThing_60 (nI (4 * i)) (nI (4 * i + 1)) (mV (th2 n mo c q).2 a) v2) fun r1 u1 => gd (isB r1) (some (r1, u1))) = some (bI (thS n mo c R C q).2, v) ∧ Rm n mo c (thS n mo c R C q).1 v ∧ gI v 47 23 = nI (i + 1) ∧ (∀ j, j < 4 * i → v.2.1 58 j = w.2.1 58 j) ∧ ((thS n mo c R C q).2 = true → v.2.1 58 (4 * i) = nI (thK n mo c q) ∧ v.2.1 58 (4 * i + 1) = nI (thD n mo c q) ∧ v.2.1 58 (4 * i + 2) = nI (thF n mo c R C q) ∧ v.2.1 58 (4 * i + 3) = nI (thH n mo c R C q)) ∧ Fm [(47, 19), (47, 23)] [58] [] w v := by
    intro v2 a ha m2 f2 hm
    obtain ⟨v, e3, r3, t3, q3, f3⟩ := th60 ht (R := R) (C := C) (i := i) (by omega) (s := th2 n mo c q) ha m2 ((f2.i 47 3 rfl).trans yR) ((f2.i 47 4 rfl).trans yC) hR1 hR6 hC1 hC6
    rw [e3, oBs, gd_t (isB_bI _)]
    have q4 : v.2.1 58 = upd (upd (upd (upd (w.2.1 58) (4 * i) (mV (th1 n mo c q).2 (thK n mo c q))) (4 * i + 1) (mV (th2 n mo c q).2 (thD n mo c q))) (4 * i + 2) (mV (th3 n mo c R C q).2 (thF n mo c R C q))) (4 * i + 3) (mV (thS n mo c R C q).2 (thH n mo c R C q)) := by
      rw [q3, f2.a 58 rfl, y58, hm]; rfl
    refine ⟨v, rfl, r3, ?_, fun j hj => ?_, fun hk => ?_, (fy.trans (f2.mono rfl rfl rfl)).trans f3⟩
    · rw [t3, show gI v2 47 23 = nI i from (f2.i 47 23 rfl).trans y23, nI_1]
    · rw [q4, pk_un (by omega), pk_un (by omega), pk_un (by omega), pk_un (by omega)]
    · have a3 := (sg_y hk).1
      have a2 := th_f a3
      have a1 := (sg_y a2).1
      rw [q4, hk, a3, a2, a1]
      refine ⟨?_, ?_, ?_, ?_⟩
      · rw [pk_un (by omega), pk_un (by omega), pk_un (by omega), pk_us]; rfl
      · rw [pk_un (by omega), pk_un (by omega), pk_us]; rfl
      · rw [pk_un (by omega), pk_us]; rfl
      · rw [pk_us]; rfl
  cases hk : (th1 n mo c q).2 with
  | false =>
    have e2 : th2 n mo c q = th1 n mo c q := sg_f hk
    have k2 : (th2 n mo c q).2 = false := by rw [e2]; exact hk
    rw [if_neg (show ¬ 0 ≤ mV false (thK n mo c q) from (show ¬ (0 : Int32) ≤ -1 by decide))]
    have := fin y 0 (by decide) (by rw [e2]; exact r1) Fm.rf (by rw [k2]; rfl)
    rw [k2] at this
    exact this
  | true =>
    have hkl : thK n mo c q < 8 := by
      obtain ⟨_, z, ez, ez2, _⟩ := sg_y (o := sgO n mo c 97 8 q) (s := (q, true)) hk
      obtain ⟨_, d1, d2, d3⟩ := sg_hp ez
      have : thK n mo c q = z := ez2
      omega
    rw [if_pos (show 0 ≤ mV true (thK n mo c q) from nI_pos' (n := thK n mo c q) (by omega))]
    obtain ⟨v2, e2, m2, f2⟩ := num1_m ht r1
    have s3 : (th2 n mo c q).2 = (sgO n mo c 48 10 (th1 n mo c q).1).isSome := by
      show sgK _ (th1 n mo c q).2 = _
      rw [hk]; unfold sgK; rw [Bool.true_and]
    have hv2 : hV (sgO n mo c 48 10 (th1 n mo c q).1) = mV (th2 n mo c q).2 (thD n mo c q) := by
      rw [s3]; exact hV_mV (fun x hx => by unfold thD; rw [hx, hk]; rfl)
    have hdl : thD n mo c q < 100 := by
      unfold thD
      rw [hk]
      cases ho : sgO n mo c 48 10 (th1 n mo c q).1 with
      | none => decide
      | some x =>
        obtain ⟨_, d1, d2, d3⟩ := sg_hp ho
        show x < 100
        omega
    rw [e2, oBs, hv2]
    have m2' : Rm n mo c (th2 n mo c q).1 v2 := by
      have : (th2 n mo c q).1 = adv (sgO n mo c 48 10 (th1 n mo c q).1) (th1 n mo c q).1 := by
        show sgP _ (th1 n mo c q).1 (th1 n mo c q).2 = _
        rw [hk]; cases sgO n mo c 48 10 (th1 n mo c q).1 <;> rfl
      rw [this]; exact m2
    exact fin v2 (thD n mo c q) hdl m2' f2 rfl
theorem things21 {b K : Nat} (hb : b + K ≤ 8) (h7 : gI u 47 5 = nI b) (h23 : gI u 47 23 = nI K) (hK : 0 < K) : ∃ w, fX12_things_21 FU 0 u = some (nI K, sI (sI w 47 30 0) 47 8 (gI w 47 8 + 1)) ∧ gI w 47 5 = nI (b + K) ∧ (∀ j, j < b → w.2.1 49 j = u.2.1 49 j ∧ w.2.1 50 j = u.2.1 50 j) ∧ (∀ j, j < K → w.2.1 49 (b + j) = u.2.1 58 (4 * j) ∧ w.2.1 50 (b + j) = u.2.1 58 (4 * j + 1) ∧ w.2.1 55 (b + j) = u.2.1 58 (4 * j + 2) ∧ w.2.1 55 (8 + (b + j)) = u.2.1 58 (4 * j + 3)) ∧ (∀ j, (j < b ∨ 8 ≤ j ∧ j < 8 + b ∨ 16 ≤ j) → w.2.1 55 j = u.2.1 55 j) ∧ Fm [(47, 5)] [49, 50, 55] [] u w := by
  refine lpE (fun f (z : Int32) w => fX12_things_21 f z w) K (fun i => nI i) (fun i w => gI w 47 5 = nI (b + i) ∧ (∀ j, j < b → w.2.1 49 j = u.2.1 49 j ∧ w.2.1 50 j = u.2.1 50 j) ∧ (∀ j, j < i → w.2.1 49 (b + j) = u.2.1 58 (4 * j) ∧ w.2.1 50 (b + j) = u.2.1 58 (4 * j + 1) ∧ w.2.1 55 (b + j) = u.2.1 58 (4 * j + 2) ∧ w.2.1 55 (8 + (b + j)) = u.2.1 58 (4 * j + 3)) ∧ (∀ j, (j < b ∨ 8 ≤ j ∧ j < 8 + b ∨ 16 ≤ j) → w.2.1 55 j = u.2.1 55 j) ∧ Fm [(47, 5)] [49, 50, 55] [] u w) (fun o => ∃ w, o = some (nI K, sI (sI w 47 30 0) 47 8 (gI w 47 8 + 1)) ∧ gI w 47 5 = nI (b + K) ∧ (∀ j, j < b → w.2.1 49 j = u.2.1 49 j ∧ w.2.1 50 j = u.2.1 50 j) ∧ (∀ j, j < K → w.2.1 49 (b + j) = u.2.1 58 (4 * j) ∧ w.2.1 50 (b + j) = u.2.1 58 (4 * j + 1) ∧ w.2.1 55 (b + j) = u.2.1 58 (4 * j + 2) ∧ w.2.1 55 (8 + (b + j)) = u.2.1 58 (4 * j + 3)) ∧ (∀ j, (j < b ∨ 8 ≤ j ∧ j < 8 + b ∨ 16 ≤ j) → w.2.1 55 j = u.2.1 55 j) ∧ Fm [(47, 5)] [49, 50, 55] [] u w) ?_ ?_ (by omega) 0 rfl ⟨h7, fun j hj => ⟨rfl, rfl⟩, fun j hj => absurd hj (Nat.not_lt_zero j), fun _ _ => rfl, Fm.rf⟩
  · rintro f i w hi ⟨p7, plo, phi, p55, pf⟩
    left
    have j0 := inb_nI (show 4 * i < 32 by omega) (show 32 < 2 ^ 31 by decide)
    have j1 := inb_nI (show 4 * i + 1 < 32 by omega) (show 32 < 2 ^ 31 by decide)
    have j2 := inb_nI (show 4 * i + 2 < 32 by omega) (show 32 < 2 ^ 31 by decide)
    have j3 := inb_nI (show 4 * i + 3 < 32 by omega) (show 32 < 2 ^ 31 by decide)
    have i4 := inb_nI (show b + i < 8 by omega) (show 8 < 2 ^ 31 by decide)
    have i5 := inb_nI (show b + i < 26 by omega) (show 26 < 2 ^ 31 by decide)
    have i6 := inb_nI (show 8 + (b + i) < 26 by omega) (show 26 < 2 ^ 31 by decide)
    have e58 : ∀ x, x < 2 ^ 31 → gA w 58 (nI x) = u.2.1 58 x := fun x hx => by
      show w.2.1 58 (nI x).toNatClampNeg = _
      rw [nI_clamp hx, pf.a 58 rfl]
    obtain ⟨y1, hy1⟩ : ∃ y, y = sA w 49 (nI (b + i)) (gA w 58 (nI (4 * i))) := ⟨_, rfl⟩
    obtain ⟨y2, hy2⟩ : ∃ y, y = sA y1 50 (nI (b + i)) (gA y1 58 (nI (4 * i + 1))) := ⟨_, rfl⟩
    obtain ⟨y3, hy3⟩ : ∃ y, y = sA y2 55 (nI (b + i)) (gA y2 58 (nI (4 * i + 2))) := ⟨_, rfl⟩
    obtain ⟨y4, hy4⟩ : ∃ y, y = sA y3 55 (nI (8 + (b + i))) (gA y3 58 (nI (4 * i + 3))) := ⟨_, rfl⟩
    have p1 : gI y1 47 5 = nI (b + i) := by rw [hy1]; exact p7
    have p2 : gI y2 47 5 = nI (b + i) := by rw [hy2]; exact p1
    have p3 : gI y3 47 5 = nI (b + i) := by rw [hy3]; exact p2
    have p4 : gI y4 47 5 = nI (b + i) := by rw [hy4]; exact p3
    have est : fX12_things_21 (f + 1) (nI i) w = fX12_things_21 f (nI (i + 1)) (sI y4 47 5 (nI (b + i) + 1)) := by
      rw [fX12_things_21, show gI w 47 23 = nI K from (pf.i 47 23 rfl).trans h23, if_neg (nI_ge hi (by omega)), show (4 : Int32) * nI i = nI (4 * i) from pk_mul 4 i, gd_t j0, p7, gd_t i4, nxs, ← hy1, nI_1, gd_t j1, p1, gd_t i4, nxs, ← hy2, show nI (4 * i) + 2 = nI (4 * i + 2) from nI_add (4 * i) 2, gd_t j2, p2, gd_t i5, nxs, ← hy3, show nI (4 * i) + 3 = nI (4 * i + 3) from nI_add (4 * i) 3, gd_t j3, p3, show (8 : Int32) + nI (b + i) = nI (8 + (b + i)) from nI_add 8 (b + i), gd_t i6, nxs, ← hy4, p4, nxs, nI_1]
    have r49 : (sI y4 47 5 (nI (b + i) + 1)).2.1 49 = upd (w.2.1 49) (b + i) (u.2.1 58 (4 * i)) := by
      rw [hy4, hy3, hy2, hy1]
      show upd (w.2.1 49) (nI (b + i)).toNatClampNeg (gA w 58 (nI (4 * i))) = _
      rw [nI_clamp (by omega), e58 _ (by omega)]
    have r50 : (sI y4 47 5 (nI (b + i) + 1)).2.1 50 = upd (w.2.1 50) (b + i) (u.2.1 58 (4 * i + 1)) := by
      rw [hy4, hy3, hy2, hy1]
      show upd (w.2.1 50) (nI (b + i)).toNatClampNeg (gA w 58 (nI (4 * i + 1))) = _
      rw [nI_clamp (by omega), e58 _ (by omega)]
    have r55 : (sI y4 47 5 (nI (b + i) + 1)).2.1 55 = upd (upd (w.2.1 55) (b + i) (u.2.1 58 (4 * i + 2))) (8 + (b + i)) (u.2.1 58 (4 * i + 3)) := by
      rw [hy4, hy3, hy2, hy1]
      show upd (upd (w.2.1 55) (nI (b + i)).toNatClampNeg (gA w 58 (nI (4 * i + 2)))) (nI (8 + (b + i))).toNatClampNeg (gA w 58 (nI (4 * i + 3))) = _
      rw [nI_clamp (by omega), nI_clamp (by omega), e58 _ (by omega), e58 _ (by omega)]
    refine ⟨_, ⟨?_, fun j hj => ?_, fun j hj => ?_, fun j hj => ?_, ?_⟩, est⟩
    · show nI (b + i) + 1 = _
      rw [nI_1]; rfl
    · rw [r49, r50, pk_un (by omega), pk_un (by omega)]; exact plo j hj
    · rw [r49, r50, r55]
      by_cases q : j = i
      · subst q; rw [pk_us, pk_us, pk_us, pk_un (show b + j ≠ 8 + (b + j) by omega), pk_us]; exact ⟨rfl, rfl, rfl, rfl⟩
      · have q2 := phi j (by omega)
        rw [pk_un (by omega), pk_un (by omega), pk_un (show b + j ≠ 8 + (b + i) by omega), pk_un (show b + j ≠ b + i by omega), pk_un (show 8 + (b + j) ≠ 8 + (b + i) by omega), pk_un (show 8 + (b + j) ≠ b + i by omega)]; exact q2
    · rw [r55, pk_un (by omega), pk_un (by omega)]; exact p55 j hj
    · rw [hy4, hy3, hy2, hy1]; exact ((((pf.sA rfl).sA rfl).sA rfl).sA rfl).sI rfl
  · rintro f w ⟨p7, plo, phi, p55, pf⟩
    have p23 : gI w 47 23 = nI K := (pf.i 47 23 rfl).trans h23
    rw [fX12_things_21, p23, if_pos (nI_le (Nat.le_refl _) (by omega)), isNew_1 p23 hK (by omega), oBs]
    exact ⟨w, rfl, p7, plo, phi, p55, pf⟩
