/-! the town is new: the past is forgotten -/
variable {D : DD} {m m' : MM} {e r : Nat} {u v : US} {n mo p : Nat} {c : Nat → Nat} {ok : Bool}
def newI : List (Nat × Nat) := (7, 2) :: (7, 3) :: (47, 30) :: (47, 8) :: (1, 1) :: (47, 18) :: (3, 2) :: (3, 3) :: (3, 4) :: (47, 5) :: (47, 6) :: (47, 7) :: (4, 3) :: scrI
def newA : List Nat := 16 :: 17 :: 18 :: 19 :: 20 :: 21 :: 22 :: 23 :: 24 :: 49 :: 50 :: 51 :: 52 :: 53 :: 54 :: 55 :: scrA
def TwD (nt np nr : Nat) (v : US) : Prop := v.1 3 2 = nI nt ∧ v.1 47 5 = nI nt ∧ v.1 3 3 = nI np ∧ v.1 47 6 = nI np ∧ v.1 3 4 = nI nr ∧ v.1 47 7 = nI nr
def TwR (R C nt np nr : Nat) (v : US) : Prop := IRow nt 8 (v.2.1 16) (v.2.1 49) ∧ IRow nt 10 (v.2.1 17) (v.2.1 50) ∧ IRow np 10 (v.2.1 18) (v.2.1 51) ∧ IRow np 256 (v.2.1 19) (v.2.1 52) ∧ IRow nr (R * C) (v.2.1 20) (v.2.1 53) ∧ IRow nr 10 (v.2.1 21) (v.2.1 54)
def TwM (R C nt np nr : Nat) (v : US) : Prop := MomOK R C nt np nr (cMom (v.2.1 22) (v.2.1 23) (v.2.1 24) (v.1 4 3) (v.1 4 4)) ∧ MomEq nt np (cMom (v.2.1 22) (v.2.1 23) (v.2.1 24) (v.1 4 3) (v.1 4 4)) (v.2.1 55)
theorem Inv_new {k R C nt np nr nt' np' nr' : Nat} (h : InvD k u R C nt np nr) (hk : k ≤ 4000) (f : Fm newI newA scrJ u v) (e1 : v.1 1 1 = 0) (e2 : v.1 47 18 = 0) (e3 : v.1 7 3 = 0) (e4 : v.1 47 30 = 0) (e5 : v.1 7 2 = 0) (e6 : v.1 47 8 = u.1 47 8 + 1)
    (g1 : IDim R C nt' np' nr') (g2 : TwD nt' np' nr' v) (g3 : TwR R C nt' np' nr' v) (g4 : TwM R C nt' np' nr' v) : Inv (k + 1) v := by
  obtain ⟨h1, h2, h3, h4, h5, h6, h7, ⟨⟨cc, kb, q3, ec, hkb, ekb, q4⟩, hh⟩, h9, h10⟩ := h
  obtain ⟨a1, a2, a3, a4, a5⟩ := h2
  obtain ⟨b1, b2, b3, b4, b5, b6⟩ := g2
  refine ⟨R, C, nt', np', nr', g1, ⟨(f.i 3 0 rfl).trans a1, (f.i 47 3 rfl).trans a2, (f.i 3 1 rfl).trans a3, (f.i 47 4 rfl).trans a4, b1, b2, b3, b4, b5, b6⟩, ⟨0, (by omega), e1, e2, fun j hj => absurd hj (Nat.not_lt_zero j)⟩, g3, g4, ?_, ⟨0, (by omega), e3, e4, fun j hj => absurd hj (Nat.not_lt_zero j)⟩, ⟨⟨cc + 1, 0, (by omega), ?_, (by omega), e5, fun i hi => ?_⟩, ?_⟩, ?_, ?_⟩
  · rw [f.2.2.2, f.i 13 2 rfl, f.i 14 2 rfl, f.i 47 26 rfl, f.a 43 rfl, f.a 45 rfl, f.a 59 rfl]; exact h6
  · rw [e6, ec, nI_1]
  · obtain ⟨t1, ⟨d, t2, t3⟩, t4, t5⟩ := q4 i hi
    rw [f.a 82 rfl, f.a 83 rfl]
    refine ⟨t1, ⟨d, (by omega), t3⟩, ⟨fun h => by simp at h, fun h => ?_⟩, fun h => by simp at h⟩
    have hq := h.2
    rw [t3, e6, ec, nI_1] at hq
    have := congrArg Int32.toInt hq
    rw [nI_toInt (by omega), nI_toInt (by omega)] at this
    omega
  · rw [f.i 4 4 rfl, f.a 31 rfl, f.a 32 rfl]; exact IHr_mono hh
  · rw [f.i 8 1 rfl, f.i 47 1 rfl, f.j 33 rfl, f.j 48 rfl]; exact h9
  · rw [f.i 11 3 rfl, f.i 47 43 rfl, f.a 36 rfl, f.a 37 rfl, f.a 38 rfl, f.a 74 rfl, f.a 75 rfl, f.a 76 rfl]; exact h10
def keepI : List (Nat × Nat) := (1, 1) :: (47, 18) :: (3, 2) :: (3, 3) :: (3, 4) :: scrI
theorem Inv_keep {k R C nt np nr : Nat} (h : InvD k u R C nt np nr) (f : Fm keepI newA scrJ u v) (hx : ITx (v.1 1 1) (v.1 47 18) (v.2.1 15) (v.2.1 57)) (g2 : v.1 3 2 = nI nt ∧ v.1 3 3 = nI np ∧ v.1 3 4 = nI nr) (g3 : TwR R C nt np nr v) (g4 : TwM R C nt np nr v) : Inv (k + 1) v := by
  obtain ⟨h1, h2, h3, h4, h5, h6, h7, h8, h9, h10⟩ := h
  obtain ⟨a1, a2, a3, a4, a5, a6, a7, a8, a9, a10⟩ := h2
  refine ⟨R, C, nt, np, nr, h1, ⟨(f.i 3 0 rfl).trans a1, (f.i 47 3 rfl).trans a2, (f.i 3 1 rfl).trans a3, (f.i 47 4 rfl).trans a4, g2.1, (f.i 47 5 rfl).trans a6, g2.2.1, (f.i 47 6 rfl).trans a8, g2.2.2, (f.i 47 7 rfl).trans a10⟩, hx, g3, g4, ?_, ?_, ?_, ?_, ?_⟩
  · rw [f.2.2.2, f.i 13 2 rfl, f.i 14 2 rfl, f.i 47 26 rfl, f.a 43 rfl, f.a 45 rfl, f.a 59 rfl]; exact h6
  · rw [f.i 7 3 rfl, f.i 47 30 rfl, f.a 31 rfl, f.a 63 rfl]; exact h7
  · rw [f.i 7 2 rfl, f.i 47 8 rfl, f.a 32 rfl, f.a 82 rfl, f.a 83 rfl, f.a 84 rfl, f.i 4 4 rfl, f.a 31 rfl]; exact IKept_mono h8
  · rw [f.i 8 1 rfl, f.i 47 1 rfl, f.j 33 rfl, f.j 48 rfl]; exact h9
  · rw [f.i 11 3 rfl, f.i 47 43 rfl, f.a 36 rfl, f.a 37 rfl, f.a 38 rfl, f.a 74 rfl, f.a 75 rfl, f.a 76 rfl]; exact h10
theorem isNew_0 {w : US} (h : gI w 47 23 = 0) : fX12_isNew w = some (0, sI (sI w 47 30 (gI w 47 30)) 47 8 (gI w 47 8 + 0)) := by
  unfold fX12_isNew fX12_isNew_16 fX12_isNew_36 fX12_flag
  rw [h, if_pos (show (0 : Int32) ≤ 0 by decide), nxs, show gI (sI w 47 30 (gI w 47 30)) 47 23 = 0 from h, if_pos (show (0 : Int32) ≤ 0 by decide), if_pos rfl, oBs, nxs]
  rw [show gI (sI (sI w 47 30 (gI w 47 30)) 47 8 (gI (sI w 47 30 (gI w 47 30)) 47 8 + 0)) 47 23 = 0 from h]; rfl
theorem isNew_1 {w : US} {K : Nat} (h : gI w 47 23 = nI K) (hK : 0 < K) (hK2 : K ≤ 8) : fX12_isNew w = some (nI K, sI (sI w 47 30 0) 47 8 (gI w 47 8 + 1)) := by
  unfold fX12_isNew fX12_isNew_16 fX12_isNew_36 fX12_flag
  rw [h, if_neg (nI_nle hK (by omega)), nxs, show gI (sI w 47 30 0) 47 23 = nI K from h, if_neg (nI_nle hK (by omega)), if_neg (show ¬ (1 : Int32) = 0 by decide), oBs, nxs]
  rw [show gI (sI (sI w 47 30 0) 47 8 (gI (sI w 47 30 0) 47 8 + 1)) 47 23 = nI K from h]; rfl
theorem rooms21 {b K : Nat} (hb : b + K ≤ 4) (h7 : gI u 47 7 = nI b) (h23 : gI u 47 23 = nI K) (hK : 0 < K) : ∃ w, fX12_rooms_21 FU 0 u = some (nI K, sI (sI w 47 30 0) 47 8 (gI w 47 8 + 1)) ∧ gI w 47 7 = nI (b + K) ∧ (∀ j, j < b → w.2.1 53 j = u.2.1 53 j ∧ w.2.1 54 j = u.2.1 54 j) ∧ (∀ j, j < K → w.2.1 53 (b + j) = u.2.1 58 (2 * j) ∧ w.2.1 54 (b + j) = u.2.1 58 (2 * j + 1)) ∧ Fm [(47, 7)] [53, 54] [] u w := by
  refine lpE (fun f (z : Int32) w => fX12_rooms_21 f z w) K (fun i => nI i) (fun i w => gI w 47 7 = nI (b + i) ∧ (∀ j, j < b → w.2.1 53 j = u.2.1 53 j ∧ w.2.1 54 j = u.2.1 54 j) ∧ (∀ j, j < i → w.2.1 53 (b + j) = u.2.1 58 (2 * j) ∧ w.2.1 54 (b + j) = u.2.1 58 (2 * j + 1)) ∧ Fm [(47, 7)] [53, 54] [] u w) (fun o => ∃ w, o = some (nI K, sI (sI w 47 30 0) 47 8 (gI w 47 8 + 1)) ∧ gI w 47 7 = nI (b + K) ∧ (∀ j, j < b → w.2.1 53 j = u.2.1 53 j ∧ w.2.1 54 j = u.2.1 54 j) ∧ (∀ j, j < K → w.2.1 53 (b + j) = u.2.1 58 (2 * j) ∧ w.2.1 54 (b + j) = u.2.1 58 (2 * j + 1)) ∧ Fm [(47, 7)] [53, 54] [] u w) ?_ ?_ (by omega) 0 rfl ⟨h7, fun j hj => ⟨rfl, rfl⟩, fun j hj => absurd hj (Nat.not_lt_zero j), Fm.rf⟩
  · rintro f i w hi ⟨p7, plo, phi, pf⟩
    left
    have i0 := inb_nI (show 2 * i < 32 by omega) (show 32 < 2 ^ 31 by decide)
    have i1 := inb_nI (show 2 * i + 1 < 32 by omega) (show 32 < 2 ^ 31 by decide)
    have i4 := inb_nI (show b + i < 4 by omega) (show 4 < 2 ^ 31 by decide)
    have e58 : ∀ x, gA w 58 x = gA u 58 x := fun x => congrFun (pf.a 58 rfl) _
    rw [fX12_rooms_21, show gI w 47 23 = nI K from (pf.i 47 23 rfl).trans h23, if_neg (nI_ge hi (by omega)), show (2 : Int32) * nI i = nI (2 * i) from pk_mul 2 i, gd_t i0, p7, gd_t i4, nxs, nI_1, gd_t i1, show gI (sA w 53 (nI (b + i)) (gA w 58 (nI (2 * i)))) 47 7 = nI (b + i) from p7, gd_t i4, nxs, nxs, nI_1]
    refine ⟨_, ⟨?_, fun j hj => ⟨?_, ?_⟩, fun j hj => ⟨?_, ?_⟩, ((pf.sA rfl).sA rfl).sI rfl⟩, rfl⟩
    · show gI w 47 7 + 1 = _
      rw [p7, nI_1]; rfl
    · show upd (w.2.1 53) (nI (b + i)).toNatClampNeg _ j = _
      rw [nI_clamp (by omega), pk_un (by omega)]; exact (plo j hj).1
    · show upd (w.2.1 54) (nI (b + i)).toNatClampNeg _ j = _
      rw [nI_clamp (by omega), pk_un (by omega)]; exact (plo j hj).2
    · show upd (w.2.1 53) (nI (b + i)).toNatClampNeg _ (b + j) = _
      rw [nI_clamp (by omega)]
      by_cases q : j = i
      · subst q; rw [pk_us, e58]
        show u.2.1 58 (nI (2 * j)).toNatClampNeg = _
        rw [nI_clamp (by omega)]
      · rw [pk_un (by omega)]; exact (phi j (by omega)).1
    · show upd (w.2.1 54) (nI (b + i)).toNatClampNeg (gA w 58 (nI (2 * i + 1))) (b + j) = _
      rw [nI_clamp (by omega)]
      by_cases q : j = i
      · subst q; rw [pk_us, e58]
        show u.2.1 58 (nI (2 * j + 1)).toNatClampNeg = _
        rw [nI_clamp (by omega)]
      · rw [pk_un (by omega)]; exact (phi j (by omega)).2
  · rintro f w ⟨p7, plo, phi, pf⟩
    have p23 : gI w 47 23 = nI K := (pf.i 47 23 rfl).trans h23
    rw [fX12_rooms_21, p23, if_pos (nI_le (Nat.le_refl _) (by omega)), isNew_1 p23 hK (by omega), oBs]
    exact ⟨w, rfl, p7, plo, phi, pf⟩
