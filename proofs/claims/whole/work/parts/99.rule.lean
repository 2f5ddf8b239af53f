/-! rule: both sides -/
variable {D : DD} {m m' : MM} {e r : Nat} {u v w : US} {n mo p : Nat} {c : Nat → Nat} {ok : Bool}
/-- what a text says as a rule: an empty one is whole -/
def spR (n : Nat) (c : Nat → Nat) : RuR := if n = 0 then (0, true, [], []) else ruR n 40 c 5 0 0
def spK (n : Nat) (c : Nat → Nat) : Bool := (spR n c).2.1 && decide ((spR n c).1 = n)
def FS (v0 : Nat) (u v : US) : Prop := (v0 = 13 → Fm [(1, 1), (2, 1), (2, 2), (2, 3), (13, 2)] [43] [] u v) ∧ (v0 = 14 → Fm [(1, 1), (2, 1), (2, 2), (2, 3), (14, 2)] [45] [] u v)
theorem nI0 {a : Nat} (h : a < 2 ^ 31) : nI a = 0 ↔ a = 0 := nI_eq (b := 0) h (by omega)
theorem fault_c (hn : n ≤ 80) (h : Rc n mo c p ok u) : ∃ v, fX5_firstFault u = some (if (ok && decide (p = n)) then -1 else nI p, v) ∧ Rc n mo c p (ok && decide (p = n)) v ∧ Fc u v := by
  have hle := h.2.2.2
  unfold fX5_firstFault fX5_firstFault_20
  rw [show gI u 2 2 = nI p from h.2.1, show gI u 1 1 = nI n from h.1.1]
  have key : ∀ b : Bool, b = decide (p = n) → ∃ v, (oB (fX5_demand (bI b) u) fun r1 u1 => some (gI u1 2 3, u1)) = some (if (ok && decide (p = n)) then -1 else nI p, v) ∧ Rc n mo c p (ok && decide (p = n)) v ∧ Fc u v := fun b hb => by
    obtain ⟨v, e1, h1, f1⟩ := dem_c hn h b
    rw [hb] at h1 e1
    rw [hb, e1, oBs, show gI v 2 3 = _ from h1.2.2.1]
    exact ⟨v, rfl, h1, f1⟩
  by_cases q : p < n
  · rw [if_pos (nI_lt q (by omega))]
    exact key false (decide_eq_false (by omega)).symm
  · rw [if_neg (nI_nlt (by omega) (by omega))]
    exact key true (decide_eq_true (by omega)).symm
theorem spare_c (ht : Tok n 40 c) {v0 : Nat} (hv : IsV v0) (hr : u.2.2.2 1 = v0) (hx : u.1 1 1 = nI n ∧ RowN n (u.2.1 15) c) : ∃ v, fX11_readSpare u = some (if spK n c then -1 else nI (spR n c).1, v) ∧ v.1 1 1 = 0 ∧ Cn v0 v ∧ (spK n c = true → Cd v0 (spR n c).2.2.1 v) ∧ FS v0 u v := by
  have hn := ht.1
  have eR : gR u 1 = v0 := hr
  have hv1 : ¬ v0 = 1 := by rcases hv with rfl | rfl <;> decide
  obtain ⟨u1, hu1⟩ : ∃ u1, u1 = sI u v0 2 0 := ⟨_, rfl⟩
  have s1 : FS v0 u u1 := by
    rw [hu1]
    exact ⟨fun q => by subst q; exact Fm.rf.sI rfl, fun q => by subst q; exact Fm.rf.sI rfl⟩
  have c1 : Cd v0 [] u1 := by
    rw [hu1]
    refine ⟨?_, Nat.zero_le _, rfl⟩
    rcases hv with rfl | rfl <;> rfl
  have x1 : u1.1 1 1 = nI n ∧ RowN n (u1.2.1 15) c := by
    rw [hu1]
    rcases hv with rfl | rfl <;> exact hx
  have R1 : gR u1 1 = v0 := by rw [hu1]; exact hr
  unfold fX11_readSpare fX6_clear fX7_isEmpty
  rw [eR, gd_t (isV_r hv), nxs, gd_t (isV_r hv), oVs, ← hu1, show gI u1 1 1 = nI n from x1.1]
  unfold spK spR
  by_cases h0 : n = 0
  · subst h0
    rw [if_pos (show nI 0 = 0 from rfl), oBs, if_neg (show ¬ (1 : Int32) = 0 by decide), if_pos rfl]
    unfold fX11_readSpare_47 fX7_clear
    rw [nxs, oVs]
    refine ⟨_, rfl, rfl, ?_, fun _ => ?_, ?_⟩
    · obtain ⟨a, a1, a2⟩ := c1.cn
      refine ⟨a, a1, ?_⟩
      rcases hv with rfl | rfl <;> exact a2
    · rcases hv with rfl | rfl <;> exact c1
    · exact ⟨fun q => (s1.1 q).sI rfl, fun q => (s1.2 q).sI rfl⟩
  · rw [if_neg (fun q => h0 ((nI0 (by omega)).mp q)), oBs, if_pos rfl, if_neg h0, show (40 : Int32) = nI 40 from rfl]
    obtain ⟨u2, e2, r2, f2⟩ := open_c (mo := 40) x1
    have c2 : Cd v0 [] u2 := by
      obtain ⟨a1, a2, a3⟩ := c1
      refine ⟨?_, a2, rfl⟩
      rcases hv with rfl | rfl
      · exact (f2.i 13 2 rfl).trans a1
      · exact (f2.i 14 2 rfl).trans a1
    have R2 : gR u2 1 = v0 := by
      show u2.2.2.2 1 = v0
      rw [f2.2.2.2]; exact R1
    have hM : min n 40 ≤ 40 := Nat.min_le_right _ _
    obtain ⟨u3, e3, r3, f3, n3, c3⟩ := rul_c ht hM hv 5 8 0 rfl (by decide) (by decide) 0 [] u2 (Nat.zero_le _) r2 c2 (Nat.le_refl _)
    obtain ⟨u4, e4, r4, f4⟩ := fault_c hn r3
    rw [e2, oVs, R2, gd_t (isV_r hv)]
    unfold fX6_read
    rw [gd_t (isV_r hv), show (0 : Int32) = nI 0 from rfl, e3, oVs, oVs, e4, oBs]
    unfold fX11_readSpare_47 fX7_clear
    rw [nxs, oVs]
    have n4 := n3.fc hv f4
    have s4 : FS v0 u u4 := ⟨fun q => ((s1.1 q).trans (f2.mono rfl rfl rfl)).trans (((f3.1 q).mono rfl rfl rfl).trans (f4.mono rfl rfl rfl)), fun q => ((s1.2 q).trans (f2.mono rfl rfl rfl)).trans (((f3.2 q).mono rfl rfl rfl).trans (f4.mono rfl rfl rfl))⟩
    refine ⟨_, rfl, rfl, ?_, fun hk => ?_, ⟨fun q => (s4.1 q).sI rfl, fun q => (s4.2 q).sI rfl⟩⟩
    · obtain ⟨a, a1, a2⟩ := n4
      refine ⟨a, a1, ?_⟩
      rcases hv with rfl | rfl <;> exact a2
    · rw [Bool.and_eq_true] at hk
      have c4 := (c3 hk.1).fc hv f4
      rw [List.nil_append] at c4
      rcases hv with rfl | rfl <;> exact c4
abbrev FRr (u v : US) : Prop := Fm [(47, 18), (47, 19), (47, 20), (47, 21), (47, 27)] [60] [] u v
theorem rules_m (ht : Tok n 40 c) (hx : u.1 47 18 = nI n ∧ RowN n (u.2.1 57) c) : ∃ v, fX12_readsRule u = some (anV n (spR n c).1 (spR n c).2.1 0, v) ∧ v.1 47 18 = 0 ∧ (spK n c = true → Md (spR n c).2.2.2 v) ∧ (spR n c).1 ≤ 80 ∧ FRr u v := by
  have hn := ht.1
  obtain ⟨u1, e1, r1, a1, b1, f1⟩ := begins_m (mo := 40) ht hx
  obtain ⟨u2, hu2⟩ : ∃ u2, u2 = sI u1 47 27 0 := ⟨_, rfl⟩
  have r2 : Rm n 40 c 0 u2 := by rw [hu2]; exact r1.fm (a := [(47, 27)]) (b := []) (d := []) (Fm.rf.sI rfl) rfl rfl
  have c2 : Md [] u2 := by rw [hu2]; exact ⟨rfl, Nat.zero_le _, rfl⟩
  have f2 : FRr u u2 := by rw [hu2]; exact (f1.mono rfl rfl rfl).sI rfl
  have g2 : gI u2 47 18 = 0 := by rw [hu2]; exact a1
  have t2 : gI u2 47 21 = nI 0 := by rw [hu2]; exact b1
  unfold fX12_readsRule
  rw [show (40 : Int32) = nI 40 from rfl, e1, oBs, nxs, ← hu2]
  unfold fX12_readsRule_24 fX12_readsRule_29 spK spR
  by_cases h0 : n = 0
  · subst h0
    rw [if_pos (show nI 0 = 0 from rfl), show (1 : Int32) = bI true from rfl, show (40 : Int32) = nI 40 from rfl, fault_m ht r2, oBs, if_pos rfl]
    exact ⟨u2, rfl, g2, fun _ => c2, Nat.zero_le _, f2⟩
  · have hM : min n 40 ≤ 40 := Nat.min_le_right _ _
    obtain ⟨u3, e3, r3, f3, n3, c3⟩ := rul_m ht hM 5 0 rfl (by decide) 120 0 [] u2 (Nat.zero_le _) (by decide) r2 c2 (Nat.le_refl _) t2
    rw [if_neg (fun q => h0 ((nI0 (by omega)).mp q)), if_neg h0]
    unfold fX12_readsRank
    rw [e3, oBs]
    have hle := r3.2.2
    have hf := fault_m ht r3 (ruR n 40 c 5 0 0).2.1
    have fin : ∃ v, (oB (fX12_faultOf (nI n) (nI 40) (bI (ruR n 40 c 5 0 0).2.1) u3) fun r1 u1 => some (r1, u1)) = some (anV n (ruR n 40 c 5 0 0).1 (ruR n 40 c 5 0 0).2.1 0, v) ∧ v.1 47 18 = 0 ∧ (((ruR n 40 c 5 0 0).2.1 && decide ((ruR n 40 c 5 0 0).1 = n)) = true → Md (ruR n 40 c 5 0 0).2.2.2 v) ∧ (ruR n 40 c 5 0 0).1 ≤ 80 ∧ FRr u v := by
      rw [hf, oBs]
      refine ⟨u3, rfl, (f3.i 47 18 rfl).trans g2, fun hk => ?_, (by omega), f2.trans (f3.mono rfl rfl rfl)⟩
      rw [Bool.and_eq_true] at hk
      exact (c3 hk.1).1
    cases hb : (ruR n 40 c 5 0 0).2.1 with
    | true =>
      rw [hb] at fin
      rw [if_neg (show ¬ bI true = 0 by decide)]; exact fin
    | false =>
      rw [hb] at fin
      rw [if_pos (show bI false = 0 from rfl)]; exact fin
theorem layc_m {v1 : Nat} (h : v1 = 60 ∨ v1 = 81) {k : Nat} (hk : k ≤ 80) : ∃ v, fX12_laysCode v1 (nI k) u = some v ∧ gI v 47 26 = nI k ∧ (∀ j, j < k → v.2.1 59 j = u.2.1 v1 j) ∧ Fm [(47, 26)] [59] [] u v := by
  have hl : ln v1 = 80 := by rcases h with rfl | rfl <;> rfl
  have ho : okA v1 20 = true := by rcases h with rfl | rfl <;> rfl
  have h59 : ¬ v1 = 59 := by rcases h with rfl | rfl <;> decide
  unfold fX12_laysCode
  rw [gd_t ho, nxs]
  refine lpE (fun f (z : Int32) w => fX12_laysCode_7 v1 (nI k) f z w) k (fun i => nI i) (fun i w => gI w 47 26 = nI k ∧ (∀ j, j < i → w.2.1 59 j = u.2.1 v1 j) ∧ Fm [(47, 26)] [59] [] u w) (fun o => ∃ v, o = some v ∧ gI v 47 26 = nI k ∧ (∀ j, j < k → v.2.1 59 j = u.2.1 v1 j) ∧ Fm [(47, 26)] [59] [] u v) ?_ ?_ (by omega) 0 rfl ⟨rfl, fun j hj => absurd hj (Nat.not_lt_zero j), Fm.rf.sI rfl⟩
  · rintro f i w hi ⟨h1, h2, h3⟩
    left
    rw [fX12_laysCode_7, if_neg (nI_ge hi (by omega)), hl, gdi (show i < 80 by omega) (by omega), gdi (show i < 80 by omega) (by omega), nxs, nI_1]
    refine ⟨sA w 59 (nI i) (gA w v1 (nI i)), ⟨h1, fun j hj => ?_, h3.sA rfl⟩, rfl⟩
    show upd (w.2.1 59) (nI i).toNatClampNeg (w.2.1 v1 (nI i).toNatClampNeg) j = _
    rw [nI_clamp (by omega)]
    by_cases q : j = i
    · subst q; rw [pk_us]; rcases h with rfl | rfl
      · rw [h3.a 60 rfl]
      · rw [h3.a 81 rfl]
    · rw [pk_un q]; exact h2 j (by omega)
  · rintro f w ⟨h1, h2, h3⟩
    rw [fX12_laysCode_7, if_pos (nI_le (Nat.le_refl _) (by omega))]
    exact ⟨w, rfl, h1, h2, h3⟩
theorem codL_eq {f g : Nat → Int32} {k : Nat} (h : ∀ j, j < k → f j = g j) : codL f k = codL g k := by
  unfold codL
  exact List.map_congr_left (fun j hj => h j (List.mem_range.mp hj))
/-- the codes of a whole text are worth the same -/
theorem sp_rel (hk : spK n c = true) : RuleRel (spR n c).2.2.1 (spR n c).2.2.2 := by
  unfold spK spR at *
  by_cases h0 : n = 0
  · rw [if_pos h0]; exact Or.inl ⟨rfl, rfl⟩
  · rw [if_neg h0] at *
    rw [Bool.and_eq_true] at hk
    obtain ⟨k1, k2, k3, k4, k5, k6⟩ := (ru_gd (n := n) (mo := 40) (c := c) 5 0 0 (Nat.zero_le _)).2.2 hk.1
    exact Vl_rel k2 (fun q => by rw [q] at k3; cases k3) (fun q => by rw [q] at k5; cases k5)
theorem neg_n0 (p : Nat) (hp : p ≤ 80) : ¬ (-1 : Int32) - nI p = 0 := fun q => neg_nle p hp (by rw [q]; decide)
def rulI : List (Nat × Nat) := (1, 1) :: (47, 18) :: (13, 2) :: (14, 2) :: (47, 26) :: scrIt
def rulA : List Nat := 43 :: 45 :: 59 :: scrA
/-- a frame that leaves out which rule is which -/
abbrev FmR (a : List (Nat × Nat)) (b d : List Nat) (u v : US) : Prop := Fm a b d u (v.1, v.2.1, v.2.2.1, u.2.2.2)
theorem Fm.fmr {a : List (Nat × Nat)} {b d : List Nat} (h : Fm a b d u v) : FmR a b d u v := ⟨h.1, h.2.1, h.2.2.1, rfl⟩
theorem FmR.trans {a : List (Nat × Nat)} {b d : List Nat} (h : FmR a b d u v) (h2 : FmR a b d v w) : FmR a b d u w := ⟨fun i k q => (h2.1 i k q).trans (h.1 i k q), fun i q => (h2.2.1 i q).trans (h.2.1 i q), fun i q => (h2.2.2.1 i q).trans (h.2.2.1 i q), rfl⟩
theorem FmR.mono {a a' : List (Nat × Nat)} {b b' d d' : List Nat} (h : FmR a b d u v) (h1 : a.all (fun x => a'.contains x) = true) (h2 : b.all (fun x => b'.contains x) = true) (h3 : d.all (fun x => d'.contains x) = true) : FmR a' b' d' u v := Fm.mono h h1 h2 h3
theorem FmR.sR {a : List (Nat × Nat)} {b d : List Nat} (h : FmR a b d u v) (i x : Nat) : FmR a b d u (sR v i x) := h
theorem Inv_rul {k : Nat} (h : Inv k u) (f : FmR rulI rulA scrJt u v) (e1 : v.1 1 1 = 0) (e2 : v.1 47 18 = 0) (ht : ITold (v.1 8 1) (v.1 47 1) (v.2.2.1 33) (v.2.2.1 48)) (hr : IRul (v.2.2.2 0) (v.2.2.2 1) (v.1 13 2) (v.1 14 2) (v.1 47 26) (v.2.1 43) (v.2.1 45) (v.2.1 59)) : Inv (k + 1) v := by
  obtain ⟨R, C, nt, np, nr, h1, h2, h3, h4, h5, h6, h7, h8, h9, h10⟩ := h
  have i : ∀ a b, rulI.contains (a, b) = false → v.1 a b = u.1 a b := fun a b q => f.i a b q
  have a : ∀ x, rulA.contains x = false → v.2.1 x = u.2.1 x := fun x q => f.a x q
  refine ⟨R, C, nt, np, nr, h1, ?_, ?_, ?_, ?_, hr, ?_, ?_, ht, ?_⟩
  · rw [i 3 0 rfl, i 47 3 rfl, i 3 1 rfl, i 47 4 rfl, i 3 2 rfl, i 47 5 rfl, i 3 3 rfl, i 47 6 rfl, i 3 4 rfl, i 47 7 rfl]; exact h2
  · exact ⟨0, Nat.zero_le _, e1, e2, fun j hj => absurd hj (Nat.not_lt_zero j)⟩
  · rw [a 16 rfl, a 17 rfl, a 18 rfl, a 19 rfl, a 20 rfl, a 21 rfl, a 49 rfl, a 50 rfl, a 51 rfl, a 52 rfl, a 53 rfl, a 54 rfl]; exact h4
  · rw [a 22 rfl, a 23 rfl, a 24 rfl, a 55 rfl, i 4 3 rfl, i 4 4 rfl]; exact h5
  · rw [i 7 3 rfl, i 47 30 rfl, a 31 rfl, a 63 rfl]; exact h7
  · rw [i 7 2 rfl, i 47 8 rfl, a 32 rfl, a 82 rfl, a 83 rfl, a 84 rfl, i 4 4 rfl, a 31 rfl]; exact IKept_mono h8
  · rw [i 11 3 rfl, i 47 43 rfl, a 36 rfl, a 37 rfl, a 38 rfl, a 74 rfl, a 75 rfl, a 76 rfl]; exact h10
theorem Inv_irul {k : Nat} (h : Inv k u) : IRul (u.2.2.2 0) (u.2.2.2 1) (u.1 13 2) (u.1 14 2) (u.1 47 26) (u.2.1 43) (u.2.1 45) (u.2.1 59) := by
  obtain ⟨R, C, nt, np, nr, h1, h2, h3, h4, h5, h6, h7, h8, h9, h10⟩ := h
  exact h6
theorem st_6 : St_6 Inv := by
  intro k u hk hI
  obtain ⟨n, c, hn, hc, hxc, hxm⟩ := tx_of hI
  have ht : Tok n 40 c := ⟨hn, by decide, hc⟩
  have hRu := Inv_irul hI
  have hTo := Inv_told hI
  obtain ⟨q0, v0, hq0, hv0, hV, hne⟩ : ∃ q0 v0, u.2.2.2 0 = q0 ∧ u.2.2.2 1 = v0 ∧ IsV v0 ∧ ((q0 = 13 ∧ v0 = 14) ∨ (q0 = 14 ∧ v0 = 13)) := by
    obtain ⟨a, b, k', _, _, _, _, _, _, ⟨r0, r1, _⟩ | ⟨r0, r1, _⟩⟩ := hRu
    · exact ⟨13, 14, r0, r1, Or.inr rfl, Or.inl ⟨rfl, rfl⟩⟩
    · exact ⟨14, 13, r0, r1, Or.inl rfl, Or.inr ⟨rfl, rfl⟩⟩
  obtain ⟨y, e1, y1, cn, cd, fs⟩ := spare_c ht hV hv0 hxc
  have fy : Fm [(1, 1), (2, 1), (2, 2), (2, 3), (13, 2), (14, 2)] [43, 45] [] u y := by
    rcases hV with q | q
    · exact (fs.1 q).mono rfl rfl rfl
    · exact (fs.2 q).mono rfl rfl rfl
  cases hK : spK n c with
  | true =>
    rw [hK, if_pos rfl] at e1
    obtain ⟨z, hz⟩ : ∃ z, z = sR (sR y 0 (gR y 1)) 1 (gR y 0) := ⟨_, rfl⟩
    have R1 : gR y 1 = v0 := by show y.2.2.2 1 = _; rw [fy.2.2.2, hv0]
    have R0 : gR y 0 = q0 := by show y.2.2.2 0 = _; rw [fy.2.2.2, hq0]
    have ec : fX11_rule u = some (0, z) := by
      unfold fX11_rule fX11_swapRules
      rw [e1, oBs, if_pos rfl, nxs, nxs, oVs, hz]
    have z1 : z.1 = y.1 ∧ z.2.1 = y.2.1 ∧ z.2.2.1 = y.2.2.1 ∧ z.2.2.2 0 = v0 ∧ z.2.2.2 1 = q0 := by
      rw [hz, R1, R0]; exact ⟨rfl, rfl, rfl, rfl, rfl⟩
    have xz : (sI z 47 0 0).1 47 18 = nI n ∧ RowN n ((sI z 47 0 0).2.1 57) c := by
      refine ⟨?_, ?_⟩
      · show z.1 47 18 = _
        rw [z1.1, fy.i 47 18 rfl]; exact hxm.1
      · show RowN n (z.2.1 57) c
        rw [z1.2.1, fy.a 57 rfl]; exact hxm.2
    obtain ⟨w1, e2, g18, md, _, f2⟩ := rules_m ht xz
    have hK' := hK
    unfold spK at hK'
    rw [show anV n (spR n c).1 (spR n c).2.1 0 = 0 by unfold anV; rw [hK']; rfl] at e2
    obtain ⟨m1, m2, m3⟩ := md hK
    obtain ⟨w2, e3, g26, l2, f3⟩ := layc_m (u := w1) (v1 := 60) (Or.inl rfl) m2
    have em : fX12_rule z = some (0, w2) := by
      unfold fX12_rule
      rw [nxs, e2, oBs, if_pos rfl, m1, e3, oVs]
    refine ⟨0, z, w2, ec, em, ?_⟩
    have fz : Fm [(47, 0), (47, 18), (47, 19), (47, 20), (47, 21), (47, 26), (47, 27)] [59, 60] [] z w2 := ((Fm.rf.sI rfl).trans (f2.mono rfl rfl rfl)).trans (f3.mono rfl rfl rfl)
    have f0 : FmR rulI rulA scrJt u z := by rw [hz]; exact (fy.mono rfl rfl rfl).fmr
    have fa : FmR rulI rulA scrJt u w2 := f0.trans (fz.mono rfl rfl rfl).fmr
    have hc59 : codL (w2.2.1 59) (spR n c).2.2.2.length = (spR n c).2.2.2 := by rw [codL_eq l2]; exact m3
    obtain ⟨c1, c2, c3⟩ := cd hK
    refine Inv_rul hI fa ?_ ((f3.i 47 18 rfl).trans g18) ?_ ?_
    · rw [fz.i 1 1 rfl, z1.1]; exact y1
    · rw [fz.i 8 1 rfl, fz.i 47 1 rfl, fz.j 33 rfl, fz.j 48 rfl, z1.1, z1.2.2.1, fy.i 8 1 rfl, fy.i 47 1 rfl, fy.j 33 rfl, fy.j 48 rfl]; exact hTo
    · rw [fz.2.2.2, z1.2.2.2.1, z1.2.2.2.2, fz.i 13 2 rfl, fz.i 14 2 rfl, fz.a 43 rfl, fz.a 45 rfl, z1.1, z1.2.1]
      obtain ⟨a, b, k', ha, hb, hk', ea, eb, ek, hr⟩ := hRu
      rcases hne with ⟨rfl, rfl⟩ | ⟨rfl, rfl⟩
      · refine ⟨a, _, _, ha, c2, m2, ((fs.2 rfl).i 13 2 rfl).trans ea, c1, g26, Or.inr ⟨rfl, rfl, ?_⟩⟩
        rw [hc59, show codL (y.2.1 45) (spR n c).2.2.1.length = _ from c3]
        exact sp_rel hK
      · refine ⟨_, b, _, c2, hb, m2, c1, ((fs.1 rfl).i 14 2 rfl).trans eb, g26, Or.inl ⟨rfl, rfl, ?_⟩⟩
        rw [hc59, show codL (y.2.1 43) (spR n c).2.2.1.length = _ from c3]
        exact sp_rel hK
  | false =>
    rw [hK, if_neg (by decide)] at e1
    have xz : (sI y 47 0 0).1 47 18 = nI n ∧ RowN n ((sI y 47 0 0).2.1 57) c := by
      refine ⟨?_, ?_⟩
      · show y.1 47 18 = _
        rw [fy.i 47 18 rfl]; exact hxm.1
      · show RowN n (y.2.1 57) c
        rw [fy.a 57 rfl]; exact hxm.2
    obtain ⟨w1, e2, g18, md, hle, f2⟩ := rules_m ht xz
    have hK' := hK
    unfold spK at hK'
    rw [show anV n (spR n c).1 (spR n c).2.1 0 = -1 - nI (spR n c).1 by unfold anV; rw [hK']; rfl] at e2
    have ec : fX11_rule u = some (-1 - nI (spR n c).1, y) := by
      unfold fX11_rule
      rw [e1, oBs, if_neg (n31 (by omega))]
    have em : fX12_rule y = some (-1 - nI (spR n c).1, w1) := by
      unfold fX12_rule
      rw [nxs, e2, oBs, if_neg (neg_n0 _ hle)]
    refine ⟨_, y, w1, ec, em, ?_⟩
    have fz : Fm [(47, 0), (47, 18), (47, 19), (47, 20), (47, 21), (47, 27)] [60] [] y w1 := (Fm.rf.sI rfl).trans (f2.mono rfl rfl rfl)
    have fa : FmR rulI rulA scrJt u w1 := FmR.trans (fy.mono rfl rfl rfl).fmr (fz.mono rfl rfl rfl).fmr
    refine Inv_rul hI fa ((fz.i 1 1 rfl).trans y1) g18 ?_ ?_
    · rw [fz.i 8 1 rfl, fz.i 47 1 rfl, fz.j 33 rfl, fz.j 48 rfl, fy.i 8 1 rfl, fy.i 47 1 rfl, fy.j 33 rfl, fy.j 48 rfl]; exact hTo
    · obtain ⟨a, b, k', ha, hb, hk', ea, eb, ek, hr⟩ := hRu
      obtain ⟨x, x1, x2⟩ := cn
      rw [fz.2.2.2, fy.2.2.2, hq0, hv0, fz.i 13 2 rfl, fz.i 14 2 rfl, fz.i 47 26 rfl, fz.a 43 rfl, fz.a 45 rfl, fz.a 59 rfl, fy.i 47 26 rfl, fy.a 59 rfl]
      rw [hq0, hv0] at hr
      rcases hne with ⟨rfl, rfl⟩ | ⟨rfl, rfl⟩
      · refine ⟨a, x, k', ha, x1, hk', ((fs.2 rfl).i 13 2 rfl).trans ea, x2, ek, Or.inl ⟨rfl, rfl, ?_⟩⟩
        rw [(fs.2 rfl).a 43 rfl]
        rcases hr with ⟨_, _, h⟩ | ⟨h, _⟩
        · exact h
        · exact absurd h (by decide)
      · refine ⟨x, b, k', x1, hb, hk', x2, ((fs.1 rfl).i 14 2 rfl).trans eb, ek, Or.inr ⟨rfl, rfl, ?_⟩⟩
        rw [(fs.1 rfl).a 45 rfl]
        rcases hr with ⟨h, _⟩ | ⟨_, _, h⟩
        · exact absurd h (by decide)
        · exact h
