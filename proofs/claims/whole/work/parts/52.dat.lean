/-! reading behind writing -/
theorem gI_sI (u : US) (i k j l : Nat) (x : Int32) : (sI u i k x).1 j l = if j = i then (if l = k then x else u.1 j l) else u.1 j l := rfl
theorem gI_sA (u : US) (i : Nat) (x v : Int32) : (sA u i x v).1 = u.1 := rfl
theorem gI_sF (u : US) (i : Nat) (f : Nat → Int32) : (sF u i f).1 = u.1 := rfl
theorem gI_sJ (u : US) (i : Nat) (x : Int32) (v : Int64) : (sJ u i x v).1 = u.1 := rfl
theorem gI_sR (u : US) (k v : Nat) : (sR u k v).1 = u.1 := rfl
theorem g2_sI (u : US) (i k : Nat) (x : Int32) : (sI u i k x).2 = u.2 := rfl
theorem gA_sA (u : US) (i j : Nat) (x v : Int32) : (sA u i x v).2.1 j = if j = i then upd (u.2.1 j) x.toNatClampNeg v else u.2.1 j := rfl
theorem g22_sA (u : US) (i : Nat) (x v : Int32) : (sA u i x v).2.2 = u.2.2 := rfl
theorem gA_sF (u : US) (i j : Nat) (f : Nat → Int32) : (sF u i f).2.1 j = if j = i then f else u.2.1 j := rfl
theorem g22_sF (u : US) (i : Nat) (f : Nat → Int32) : (sF u i f).2.2 = u.2.2 := rfl
theorem gA_sJ (u : US) (i : Nat) (x : Int32) (v : Int64) : (sJ u i x v).2.1 = u.2.1 := rfl
theorem gJ_sJ (u : US) (i j : Nat) (x : Int32) (v : Int64) : (sJ u i x v).2.2.1 j = if j = i then vp_updL (u.2.2.1 j) x.toNatClampNeg v else u.2.2.1 j := rfl
theorem gR_sJ (u : US) (i : Nat) (x : Int32) (v : Int64) : (sJ u i x v).2.2.2 = u.2.2.2 := rfl
theorem gA_sR (u : US) (k v : Nat) : (sR u k v).2.1 = u.2.1 := rfl
theorem gJ_sR (u : US) (k v : Nat) : (sR u k v).2.2.1 = u.2.2.1 := rfl
theorem gR_sR (u : US) (k v j : Nat) : (sR u k v).2.2.2 j = if j = k then v else u.2.2.2 j := rfl
theorem sF_sF (u : US) (i : Nat) (f g : Nat → Int32) : sF (sF u i f) i g = sF u i g := by
  unfold sF
  refine Prod.ext rfl (Prod.ext ?_ rfl)
  funext a
  by_cases h : a = i <;> simp [h]
theorem sA_sF (u : US) (i : Nat) (f : Nat → Int32) (x v : Int32) : sA (sF u i f) i x v = sF u i (upd f x.toNatClampNeg v) := by
  unfold sF sA
  refine Prod.ext rfl (Prod.ext ?_ rfl)
  funext a
  by_cases h : a = i <;> simp [h]
theorem sA_eF (u : US) (i : Nat) (x v : Int32) : sA u i x v = sF u i (upd (u.2.1 i) x.toNatClampNeg v) := by
  unfold sF sA
  refine Prod.ext rfl (Prod.ext ?_ rfl)
  funext a
  by_cases h : a = i
  · subst h; simp
  · simp [h]
theorem sF_id (u : US) (i : Nat) : sF u i (u.2.1 i) = u := by
  unfold sF
  refine Prod.ext rfl (Prod.ext ?_ rfl)
  funext a
  by_cases h : a = i
  · subst h; simp
  · simp [h]
theorem oBs {α ρ : Type} (a : α) (v : US) (k : α → US → Option ρ) : oB (some (a, v)) k = k a v := rfl
theorem oVs {ρ : Type} (v : US) (k : US → Option ρ) : oV (some v) k = k v := rfl
theorem gds {ρ : Type} (e : Option ρ) : gd true e = e := rfl
theorem FU_s : FU = 4095 + 1 := rfl
/-! frames -/
def Fm (a : List (Nat × Nat)) (b c : List Nat) (u v : US) : Prop := (∀ i k, (i, k) ∉ a → v.1 i k = u.1 i k) ∧ (∀ i, i ∉ b → v.2.1 i = u.2.1 i) ∧ (∀ i, i ∉ c → v.2.2.1 i = u.2.2.1 i) ∧ v.2.2.2 = u.2.2.2
theorem Fm.rf {a : List (Nat × Nat)} {b c : List Nat} {u : US} : Fm a b c u u := ⟨fun _ _ _ => Eq.refl _, fun _ _ => Eq.refl _, fun _ _ => Eq.refl _, Eq.refl _⟩
theorem Fm.trans {a : List (Nat × Nat)} {b c : List Nat} {u v w : US} (h : Fm a b c u v) (h2 : Fm a b c v w) : Fm a b c u w := ⟨fun i k q => (h2.1 i k q).trans (h.1 i k q), fun i q => (h2.2.1 i q).trans (h.2.1 i q), fun i q => (h2.2.2.1 i q).trans (h.2.2.1 i q), h2.2.2.2.trans h.2.2.2⟩
theorem Fm.mono {a a' : List (Nat × Nat)} {b b' c c' : List Nat} {u v : US} (h : Fm a b c u v) (h1 : a.all (fun x => a'.contains x) = true) (h2 : b.all (fun x => b'.contains x) = true) (h3 : c.all (fun x => c'.contains x) = true) : Fm a' b' c' u v := by
  refine ⟨fun i k q => h.1 i k (fun w => q ?_), fun i q => h.2.1 i (fun w => q ?_), fun i q => h.2.2.1 i (fun w => q ?_), h.2.2.2⟩
  · exact List.contains_iff_mem.mp (List.all_eq_true.mp h1 _ w)
  · exact List.contains_iff_mem.mp (List.all_eq_true.mp h2 _ w)
  · exact List.contains_iff_mem.mp (List.all_eq_true.mp h3 _ w)
theorem Fm.sI {a : List (Nat × Nat)} {b c : List Nat} {u v : US} (h : Fm a b c u v) {i k : Nat} {x : Int32} (hm : a.contains (i, k) = true) : Fm a b c u (sI v i k x) := by
  refine ⟨fun i' k' q => ?_, h.2.1, h.2.2.1, h.2.2.2⟩
  rw [gI_sI]
  by_cases h1 : i' = i
  · by_cases h2 : k' = k
    · subst h1; subst h2
      exact absurd (List.contains_iff_mem.mp hm) q
    · rw [if_pos h1, if_neg h2]; exact h.1 _ _ q
  · rw [if_neg h1]; exact h.1 _ _ q
theorem Fm.sF {a : List (Nat × Nat)} {b c : List Nat} {u v : US} (h : Fm a b c u v) {i : Nat} {f : Nat → Int32} (hm : b.contains i = true) : Fm a b c u (sF v i f) := by
  refine ⟨h.1, fun j q => ?_, h.2.2.1, h.2.2.2⟩
  rw [gA_sF]
  by_cases h1 : j = i
  · subst h1; exact absurd (List.contains_iff_mem.mp hm) q
  · rw [if_neg h1]; exact h.2.1 _ q
theorem Fm.sA {a : List (Nat × Nat)} {b c : List Nat} {u v : US} (h : Fm a b c u v) {i : Nat} {x y : Int32} (hm : b.contains i = true) : Fm a b c u (sA v i x y) := by
  rw [sA_eF]; exact h.sF hm
theorem Fm.sJ {a : List (Nat × Nat)} {b c : List Nat} {u v : US} (h : Fm a b c u v) {i : Nat} {x : Int32} {y : Int64} (hm : c.contains i = true) : Fm a b c u (sJ v i x y) := by
  refine ⟨h.1, h.2.1, fun j q => ?_, h.2.2.2⟩
  rw [gJ_sJ]
  by_cases h1 : j = i
  · subst h1; exact absurd (List.contains_iff_mem.mp hm) q
  · rw [if_neg h1]; exact h.2.2.1 _ q
theorem ni_of {α : Type} [BEq α] [LawfulBEq α] {a : List α} {x : α} (h : a.contains x = false) : x ∉ a := fun q => by
  rw [List.contains_iff_mem.mpr q] at h; cases h
/-- a field that the frame leaves -/
theorem Fm.i {a : List (Nat × Nat)} {b c : List Nat} {u v : US} (h : Fm a b c u v) (i k : Nat) (q : a.contains (i, k) = false) : v.1 i k = u.1 i k := h.1 i k (ni_of q)
theorem Fm.a {a : List (Nat × Nat)} {b c : List Nat} {u v : US} (h : Fm a b c u v) (i : Nat) (q : b.contains i = false) : v.2.1 i = u.2.1 i := h.2.1 i (ni_of q)
theorem Fm.j {a : List (Nat × Nat)} {b c : List Nat} {u v : US} (h : Fm a b c u v) (i : Nat) (q : c.contains i = false) : v.2.2.1 i = u.2.2.1 i := h.2.2.1 i (ni_of q)
/-- the stacks of rules alone -/
abbrev Sx (u v : US) : Prop := Fm [] [44, 46, 61, 62] [] u v
/-- scratch without the told row -/
def scrI : List (Nat × Nat) := [(0, 13), (2, 1), (2, 2), (2, 3), (5, 3), (5, 4), (6, 3), (6, 4), (9, 1), (11, 4), (12, 2), (12, 3), (47, 0), (47, 19), (47, 20), (47, 21), (47, 23), (47, 27), (47, 38), (47, 51), (47, 53)]
def scrA : List Nat := [25, 26, 27, 28, 29, 30, 34, 39, 40, 41, 42, 44, 46, 56, 58, 60, 61, 62, 64, 65, 66, 67, 68, 69, 70, 71, 72, 73, 77, 78, 79, 80, 81]
def scrJ : List Nat := [35, 85]
def scrIt : List (Nat × Nat) := (8, 1) :: (47, 1) :: scrI
def scrJt : List Nat := 33 :: 48 :: scrJ
abbrev Fr (u v : US) : Prop := Fm scrI scrA scrJ u v
abbrev Ft (u v : US) : Prop := Fm scrIt scrA scrJt u v
theorem Fm.fr {u v : US} (h : Sx u v) : Fr u v := h.mono rfl rfl rfl
theorem Fm.ft {u v : US} (h : Fr u v) : Ft u v := h.mono rfl rfl rfl
theorem Fm.sft {u v : US} (h : Sx u v) : Ft u v := h.mono rfl rfl rfl
theorem Inv_Ft {n : Nat} {u v : US} (h : Inv n u) (f : Ft u v) (ht : ITold (v.1 8 1) (v.1 47 1) (v.2.2.1 33) (v.2.2.1 48)) : Inv (n + 1) v := by
  obtain ⟨R, C, nt, np, nr, h1, h2, h3, h4, h5, h6, h7, h8, h9, h10⟩ := h
  refine ⟨R, C, nt, np, nr, h1, ?_, ?_, ?_, ?_, ?_, ?_, ?_, ht, ?_⟩
  · rw [f.i 3 0 rfl, f.i 47 3 rfl, f.i 3 1 rfl, f.i 47 4 rfl, f.i 3 2 rfl, f.i 47 5 rfl, f.i 3 3 rfl, f.i 47 6 rfl, f.i 3 4 rfl, f.i 47 7 rfl]; exact h2
  · rw [f.i 1 1 rfl, f.i 47 18 rfl, f.a 15 rfl, f.a 57 rfl]; exact h3
  · rw [f.a 16 rfl, f.a 17 rfl, f.a 18 rfl, f.a 19 rfl, f.a 20 rfl, f.a 21 rfl, f.a 49 rfl, f.a 50 rfl, f.a 51 rfl, f.a 52 rfl, f.a 53 rfl, f.a 54 rfl]; exact h4
  · rw [f.a 22 rfl, f.a 23 rfl, f.a 24 rfl, f.a 55 rfl, f.i 4 3 rfl, f.i 4 4 rfl]; exact h5
  · rw [f.2.2.2, f.i 13 2 rfl, f.i 14 2 rfl, f.i 47 26 rfl, f.a 43 rfl, f.a 45 rfl, f.a 59 rfl]; exact h6
  · rw [f.i 7 3 rfl, f.i 47 30 rfl, f.a 31 rfl, f.a 63 rfl]; exact h7
  · rw [f.i 7 2 rfl, f.i 47 8 rfl, f.a 32 rfl, f.a 82 rfl, f.a 83 rfl, f.a 84 rfl, f.i 4 4 rfl, f.a 31 rfl]; exact IKept_mono h8
  · rw [f.i 11 3 rfl, f.i 47 43 rfl, f.a 36 rfl, f.a 37 rfl, f.a 38 rfl, f.a 74 rfl, f.a 75 rfl, f.a 76 rfl]; exact h10
theorem Inv_told {n : Nat} {u : US} (h : Inv n u) : ITold (u.1 8 1) (u.1 47 1) (u.2.2.1 33) (u.2.2.1 48) := by
  obtain ⟨R, C, nt, np, nr, h1, h2, h3, h4, h5, h6, h7, h8, h9, h10⟩ := h
  exact h9
theorem Inv_Fr {n : Nat} {u v : US} (h : Inv n u) (f : Fr u v) : Inv (n + 1) v := by
  refine Inv_Ft h f.ft ?_
  rw [f.i 8 1 rfl, f.i 47 1 rfl, f.j 33 rfl, f.j 48 rfl]
  exact Inv_told h
/-! what is told -/
def TolC (l : List Int64) (u : US) : Prop := u.1 8 1 = nI l.length ∧ ∀ j, j < l.length → u.2.2.1 33 j = l.getD j 0
def TolM (l : List Int64) (u : US) : Prop := u.1 47 1 = nI l.length ∧ ∀ j, j < l.length → u.2.2.1 48 j = l.getD j 0
theorem told_of {l : List Int64} {u : US} (h : TolC l u) (h2 : TolM l u) (hl : l.length ≤ 36) : ITold (u.1 8 1) (u.1 47 1) (u.2.2.1 33) (u.2.2.1 48) := ⟨l.length, hl, h.1, h2.1, fun j hj => by rw [h.2 j hj, h2.2 j hj]⟩
theorem getD_app_l {l : List Int64} {x : Int64} {j : Nat} (h : j < l.length) : (l ++ [x]).getD j 0 = l.getD j 0 := by
  simp [List.getD, List.getElem?_append_left h]
theorem getD_app_r {l : List Int64} {x : Int64} : (l ++ [x]).getD l.length 0 = x := by simp [List.getD]
theorem add_c {l : List Int64} {u : US} (h : TolC l u) (hl : l.length < 36) (x : Int64) : fX2_add x u = some (sI (sJ u 33 (nI l.length) x) 8 1 (nI (l.length + 1))) ∧ TolC (l ++ [x]) (sI (sJ u 33 (nI l.length) x) 8 1 (nI (l.length + 1))) := by
  refine ⟨?_, ?_, ?_⟩
  · unfold fX2_add
    have e : gI u 8 1 = nI l.length := h.1
    rw [e, if_neg (show ¬ (36 : Int32) ≤ nI l.length from nI_ge (b := 36) hl (by omega)), gd_t (inb_nI hl (by omega))]
    show some (sI (sJ u 33 (nI l.length) x) 8 1 (gI u 8 1 + 1)) = _
    rw [e, nI_1]
  · show nI (l.length + 1) = nI (l ++ [x]).length
    rw [List.length_append]; rfl
  · intro j hj
    rw [List.length_append] at hj
    show vp_updL (u.2.2.1 33) (nI l.length).toNatClampNeg x j = _
    rw [nI_clamp (by omega)]
    by_cases e : j = l.length
    · subst e; rw [pk_uLs, getD_app_r]
    · have hj2 : j < l.length := by simp at hj; omega
      rw [pk_uLn e, h.2 j hj2, getD_app_l hj2]
theorem add_m {l : List Int64} {u : US} (h : TolM l u) (hl : l.length < 36) (x : Int64) : fX12_enters x u = some (sI (sJ u 48 (nI l.length) x) 47 1 (nI (l.length + 1))) ∧ TolM (l ++ [x]) (sI (sJ u 48 (nI l.length) x) 47 1 (nI (l.length + 1))) := by
  refine ⟨?_, ?_, ?_⟩
  · unfold fX12_enters
    have e : gI u 47 1 = nI l.length := h.1
    rw [e, gd_t (inb_nI hl (by omega))]
    show some (sI (sJ u 48 (nI l.length) x) 47 1 (gI u 47 1 + 1)) = _
    rw [e, nI_1]
  · show nI (l.length + 1) = nI (l ++ [x]).length
    rw [List.length_append]; rfl
  · intro j hj
    rw [List.length_append] at hj
    show vp_updL (u.2.2.1 48) (nI l.length).toNatClampNeg x j = _
    rw [nI_clamp (by omega)]
    by_cases e : j = l.length
    · subst e; rw [pk_uLs, getD_app_r]
    · have hj2 : j < l.length := by simp at hj; omega
      rw [pk_uLn e, h.2 j hj2, getD_app_l hj2]
theorem clr_c (u : US) : fX2_clear u = some (sI u 8 1 0) ∧ TolC [] (sI u 8 1 0) := ⟨rfl, rfl, fun j hj => absurd hj (Nat.not_lt_zero j)⟩
theorem clr_m (u : US) : TolM [] (sI u 47 1 0) := ⟨rfl, fun j hj => absurd hj (Nat.not_lt_zero j)⟩
/-- only the told row of the class -/
abbrev Tc (u v : US) : Prop := Fm [(8, 1)] [] [33] u v
abbrev Tm (u v : US) : Prop := Fm [(47, 1)] [] [48] u v
theorem tl2_c (x y : Int64) (u : US) : ∃ v, fX2_tellTwo x y u = some v ∧ TolC [x, y] v ∧ Tc u v := by
  obtain ⟨e0, t0⟩ := clr_c u
  obtain ⟨e1, t1⟩ := add_c t0 (by decide) x
  obtain ⟨e2, t2⟩ := add_c t1 (by simp) y
  unfold fX2_tellTwo
  rw [e0, oVs, e1, oVs, e2, oVs]
  exact ⟨_, rfl, t2, (((((Fm.rf (u := u)).sI rfl).sJ rfl).sI rfl).sJ rfl).sI rfl⟩
theorem tl1_c (x : Int64) (u : US) : ∃ v, fX2_tellOne x u = some v ∧ TolC [x] v ∧ Tc u v := by
  obtain ⟨e0, t0⟩ := clr_c u
  obtain ⟨e1, t1⟩ := add_c t0 (by decide) x
  unfold fX2_tellOne
  rw [e0, oVs, e1, oVs]
  exact ⟨_, rfl, t1, (((Fm.rf (u := u)).sI rfl).sJ rfl).sI rfl⟩
theorem en_m {l : List Int64} {u : US} (h : TolM l u) (hl : l.length < 36) (x : Int64) : ∃ v, fX12_enters x u = some v ∧ TolM (l ++ [x]) v ∧ Tm u v := ⟨_, (add_m h hl x).1, (add_m h hl x).2, ((Fm.rf (u := u)).sJ rfl).sI rfl⟩
theorem ad_c {l : List Int64} {u : US} (h : TolC l u) (hl : l.length < 36) (x : Int64) : ∃ v, fX2_add x u = some v ∧ TolC (l ++ [x]) v ∧ Tc u v := ⟨_, (add_c h hl x).1, (add_c h hl x).2, ((Fm.rf (u := u)).sJ rfl).sI rfl⟩
theorem Fm.tcft {u v : US} (h : Tc u v) : Ft u v := h.mono rfl rfl rfl
theorem Fm.tmft {u v : US} (h : Tm u v) : Ft u v := h.mono rfl rfl rfl
theorem TolC.fm {l : List Int64} {u v : US} {a : List (Nat × Nat)} {b c : List Nat} (h : TolC l u) (f : Fm a b c u v) (q : a.contains (8, 1) = false) (q2 : c.contains 33 = false) : TolC l v := by
  unfold TolC; rw [f.i 8 1 q, f.j 33 q2]; exact h
theorem TolM.fm {l : List Int64} {u v : US} {a : List (Nat × Nat)} {b c : List Nat} (h : TolM l u) (f : Fm a b c u v) (q : a.contains (47, 1) = false) (q2 : c.contains 48 = false) : TolM l v := by
  unfold TolM; rw [f.i 47 1 q, f.j 48 q2]; exact h
