/-! rows over the heap: fields, rows of numbers, calls -/
def FL (own : String) (idx ci k : Nat) : Prop := ∃ (C : String) (T : u_T), vwCl[ci]? = some (C, T, nF ci) ∧ (∀ w ∈ u_ws C T (nF ci), w ∈ TB) ∧ k < nF ci ∧ Cond.fieldLink own idx (T k).1 (T k).2.1 (T k).2.2.1 ∈ TB
/-- a field that may be written, with its type -/
def FP (own : String) (idx ci k : Nat) (ty : FieldType) : Prop := ∃ (C : String) (T : u_T) (ty0 : Nat → FieldType), vwCl[ci]? = some (C, T, nF ci) ∧ (∀ w ∈ u_ws C T (nF ci), w ∈ TB) ∧ k < nF ci ∧ Cond.fieldLink own idx (T k).1 (T k).2.1 (T k).2.2.1 ∈ TB ∧ (∀ j, j < nF ci → parseFieldDescriptor (T j).2.2.1 = some (ty0 j)) ∧ (∀ a, a < nF ci → ∀ b, b < nF ci → a ≠ b → (T a).2.1 ≠ (T b).2.1) ∧ (T k).2.2.2 = false ∧ parseFieldDescriptor (T k).2.2.1 = some ty
def okO (i ci : Nat) : Bool := decide (i < NID) && (kd i == ci) && decide (ci < 20)
def okA (i t : Nat) : Bool := decide (i < NID) && (kd i == t)
theorem okO_s {i ci : Nat} (h : okO i ci = true) : i < NID ∧ kd i = ci ∧ ci < 20 := by
  unfold okO at h
  simp only [Bool.and_eq_true, decide_eq_true_eq, beq_iff_eq] at h
  exact ⟨h.1.1, h.1.2, h.2⟩
theorem okA_s {i t : Nat} (h : okA i t = true) : i < NID ∧ kd i = t := by
  unfold okA at h
  simp only [Bool.and_eq_true, decide_eq_true_eq, beq_iff_eq] at h
  exact h
theorem cell_obj {ad : Nat → Nat} {cI cJ cZ : ClassId} {u : US} {i ci : Nat} (h : kd i = ci) (h2 : ci < 20) : cellOf ad cI cJ cZ u i = .inr (ci, (List.range (nF ci)).map (fun k => av ad (slA u i k))) := by
  unfold cellOf
  rw [h, if_neg (by omega), if_neg (by omega), if_neg (by omega)]
theorem cell_int {ad : Nat → Nat} {cI cJ cZ : ClassId} {u : US} {i : Nat} (h : kd i = 20) : cellOf ad cI cJ cZ u i = .inl (cI, ln i, .inl (u.2.1 i)) := by
  unfold cellOf
  rw [h, if_pos rfl]
theorem cell_long {ad : Nat → Nat} {cI cJ cZ : ClassId} {u : US} {i : Nat} (h : kd i = 21) : cellOf ad cI cJ cZ u i = .inl (cJ, ln i, .inr (.inl (u.2.2.1 i))) := by
  unfold cellOf
  rw [h, if_neg (by decide), if_pos rfl]
theorem cell_bool {ad : Nat → Nat} {cI cJ cZ : ClassId} {u : US} {i : Nat} (h : kd i = 22) : cellOf ad cI cJ cZ u i = .inl (cZ, ln i, .inl (u.2.1 i)) := by
  unfold cellOf
  rw [h, if_neg (by decide), if_neg (by decide), if_pos rfl]
section SH
variable {ρ : Type} {Z : QT ρ} {kx : Nat} {R : Room} {cl sl : Nat} {M : MI} {d pc : Nat} {ex : Option ρ} {ls : LL} {st : List Value} {u : US}
theorem r_get (i k : Nat) {ci idx : Nat} {v : Value} (fl : FL M.1.cls idx ci k) (hi : okO i ci = true) (hv : slA u i k = v) (hd : decode M.2.1 pc = .ok (.getfield idx, 3)) (kk : SimG Z kx R cl sl M ex (pc + 3) ls (v :: st) u) : SimG Z kx R cl sl M ex pc ls (.ref i :: st) u := by
  refine ⟨?_, trivial⟩
  intro p l e s m args below meth c ad dC dI cI cJ cZ A r arr H locs hA hr hl hP hS
  subst hv
  obtain ⟨C, T, hc, hin, hk, hlk⟩ := fl
  obtain ⟨h1, h2, h3⟩ := okO_s hi
  have he := wld_at (ad := ad) (cI := cI) (cJ := cJ) (cZ := cZ) (u := u) h1
  rw [cell_obj h2 h3] at he
  exact va_get hA.1 hA.2.1 (fun w h => hA.tb h) hin hA.2.2.2.2.1 hA.2.2.2.2.2.2.2.1 hP i he hc k hk (hA.tb hlk) (fun _ h => h) (by simp [hk]) hd (kk.1 hA hr hl hP hS)
theorem obj_put {ad : Nat → Nat} {cI cJ cZ : ClassId} {u u2 : US} {i ci k : Nat} (h : kd i = ci) (h2 : ci < 20) (hk : k < nF ci) {v : Value} (hv : slA u2 i k = v) (ho : ∀ j, j ≠ k → slA u2 i j = slA u i j) (hc : ∀ j, j ≠ i → cellOf ad cI cJ cZ u2 j = cellOf ad cI cJ cZ u j) :
    (wld ad cI cJ cZ u).set i (ad i, .inr (ci, ((List.range (nF ci)).map (fun k => av ad (slA u i k))).set k (av ad v))) = wld ad cI cJ cZ u2 := by
  refine wld_set ?_ hc
  rw [cell_obj h h2]
  congr 2
  apply List.ext_getElem?
  intro j
  rw [List.getElem?_set]
  by_cases hj : k = j
  · subst hj
    simp [hk, hv]
  · rw [if_neg hj]
    by_cases hl : j < nF ci
    · simp [hl, ho j (fun q => hj q.symm)]
    · simp [hl]
theorem cell_sI {ad : Nat → Nat} {cI cJ cZ : ClassId} {u : US} {i k : Nat} {x : Int32} {j : Nat} (h : j ≠ i) : cellOf ad cI cJ cZ (sI u i k x) j = cellOf ad cI cJ cZ u j := by
  unfold cellOf slA sI ptr
  simp only [if_neg h]
theorem r_put (i k : Nat) {ci idx : Nat} {x : Int32} (fp : FP M.1.cls idx ci k .int) (hi : okO i ci = true) (hn : isR ci k = false) (hd : decode M.2.1 pc = .ok (.putfield idx, 3)) (kk : SimG Z kx R cl sl M ex (pc + 3) ls st (sI u i k x)) : SimG Z kx R cl sl M ex pc ls (.int x :: .ref i :: st) u := by
  refine ⟨?_, trivial⟩
  intro p l e s m args below meth c ad dC dI cI cJ cZ A r arr H locs hA hr hl hP hS
  obtain ⟨C, T, ty0, hc, hin, hk, hlk, hty, hnm, hfin, hpd⟩ := fp
  obtain ⟨h1, h2, h3⟩ := okO_s hi
  have he := wld_at (ad := ad) (cI := cI) (cJ := cJ) (cZ := cZ) (u := u) h1
  rw [cell_obj h2 h3] at he
  refine va_put (v := .int x) hA.1 hA.2.1 (fun w h => hA.tb h) hin ty0 hty hnm hA.2.2.2.2.1 hA.2.2.2.2.2.2.2.1 hP (hA.2.2.2.2.2.2.2.2.1 u) hS i he hc k hk (hA.tb hlk) (fun _ h => h) hfin hpd rfl rfl (by simpa using hk) hd (fun H1 locs1 hP1 hD1 hS1 => ?_)
  have e := obj_put (ad := ad) (cI := cI) (cJ := cJ) (cZ := cZ) (u := u) (u2 := sI u i k x) (v := .int x) h2 h3 hk (by unfold slA; rw [h2, hn]; simp [sI]) (fun j hj => by unfold slA ptr; simp [sI, hj]) (fun j hj => cell_sI hj)
  rw [show ((List.range (nF ci)).map (fun k => av ad (slA u i k))).set k (.int x) = ((List.range (nF ci)).map (fun k => av ad (slA u i k))).set k (av ad (.int x)) from rfl, e] at hP1
  exact kk.1 hA hr hl hP1 hS1
theorem cell_sR {ad : Nat → Nat} {cI cJ cZ : ClassId} {u : US} {k x : Nat} {i : Nat} (hk : (k = 0 ∧ i = 3) ∨ (k = 1 ∧ i = 0)) {j : Nat} (h : j ≠ i) : cellOf ad cI cJ cZ (sR u k x) j = cellOf ad cI cJ cZ u j := by
  unfold cellOf slA sR ptr
  rcases hk with ⟨rfl, rfl⟩ | ⟨rfl, rfl⟩
  · simp [h]
  · simp [h]
theorem r_putR (i k n : Nat) {idx ci x : Nat} {C : String} (hik : (n = 0 ∧ i = 3 ∧ k = 11 ∧ ci = 8) ∨ (n = 1 ∧ i = 0 ∧ k = 12 ∧ ci = 11)) (fp : FP M.1.cls idx ci k (.object C)) (hd : decode M.2.1 pc = .ok (.putfield idx, 3)) (kk : SimG Z kx R cl sl M ex (pc + 3) ls st (sR u n x)) : SimG Z kx R cl sl M ex pc ls (.ref x :: .ref i :: st) u := by
  refine ⟨?_, trivial⟩
  intro p l e s m args below meth c ad dC dI cI cJ cZ A r arr H locs hA hr hl hP hS
  obtain ⟨C, T, ty0, hc, hin, hk, hlk, hty, hnm, hfin, hpd⟩ := fp
  have hi : okO i ci = true := by rcases hik with ⟨-, rfl, -, rfl⟩ | ⟨-, rfl, -, rfl⟩ <;> decide
  obtain ⟨h1, h2, h3⟩ := okO_s hi
  have he := wld_at (ad := ad) (cI := cI) (cJ := cJ) (cZ := cZ) (u := u) h1
  rw [cell_obj h2 h3] at he
  refine va_put (v := .ref (ad x)) hA.1 hA.2.1 (fun w h => hA.tb h) hin ty0 hty hnm hA.2.2.2.2.1 hA.2.2.2.2.2.2.2.1 hP (hA.2.2.2.2.2.2.2.2.1 u) hS i he hc k hk (hA.tb hlk) (fun _ h => h) hfin hpd rfl rfl (by simpa using hk) hd (fun H1 locs1 hP1 hD1 hS1 => ?_)
  have e := obj_put (ad := ad) (cI := cI) (cJ := cJ) (cZ := cZ) (u := u) (u2 := sR u n x) (v := .ref x) h2 h3 hk (by rcases hik with ⟨rfl, rfl, rfl, rfl⟩ | ⟨rfl, rfl, rfl, rfl⟩ <;> rfl) (fun j hj => by rcases hik with ⟨rfl, rfl, rfl, rfl⟩ | ⟨rfl, rfl, rfl, rfl⟩ <;> simp [slA, sR, ptr, hj]) (fun j hj => cell_sR (by rcases hik with ⟨rfl, rfl, -, -⟩ | ⟨rfl, rfl, -, -⟩; exact Or.inl ⟨rfl, rfl⟩; exact Or.inr ⟨rfl, rfl⟩) hj)
  rw [show ((List.range (nF ci)).map (fun k => av ad (slA u i k))).set k (.ref (ad x)) = ((List.range (nF ci)).map (fun k => av ad (slA u i k))).set k (av ad (.ref x)) from rfl, e] at hP1
  exact kk.1 hA hr hl hP1 hS1
theorem r_iald (i : Nat) {x : Int32} (hi : okA i 20 = true) (hd : decode M.2.1 pc = .ok (.iaload, 1)) (kk : SimG Z kx R cl sl M ex (pc + 1) ls (.int (gA u i x) :: st) u) : SimG Z kx R cl sl M (gd (inb x (ln i)) ex) pc ls (.int x :: .ref i :: st) u := by
  refine r_gd (fun hb => ?_)
  refine ⟨?_, trivial⟩
  intro p l e s m args below meth c ad dC dI cI cJ cZ A r arr H locs hA hr hl hP hS
  obtain ⟨h1, h2⟩ := okA_s hi
  have he := wld_at (ad := ad) (cI := cI) (cJ := cJ) (cZ := cZ) (u := u) h1
  rw [cell_int h2] at he
  exact va_iald hA.1 hA.2.1 hA.2.2.2.2.2.2.2.1 hP i 0 he rfl (inb_vp hb) hd (kk.1 hA hr hl hP hS)
theorem r_zald (i : Nat) {x : Int32} (hi : okA i 22 = true) (hd : decode M.2.1 pc = .ok (.baload, 1)) (kk : SimG Z kx R cl sl M ex (pc + 1) ls (.int (gA u i x) :: st) u) : SimG Z kx R cl sl M (gd (inb x (ln i)) ex) pc ls (.int x :: .ref i :: st) u := by
  refine r_gd (fun hb => ?_)
  refine ⟨?_, trivial⟩
  intro p l e s m args below meth c ad dC dI cI cJ cZ A r arr H locs hA hr hl hP hS
  obtain ⟨h1, h2⟩ := okA_s hi
  have he := wld_at (ad := ad) (cI := cI) (cJ := cJ) (cZ := cZ) (u := u) h1
  rw [cell_bool h2] at he
  exact va_zald hA.1 hA.2.1 hA.2.2.2.2.2.2.2.1 hP i 2 he rfl (inb_vp hb) hd (kk.1 hA hr hl hP hS)
theorem r_lald (i : Nat) {x : Int32} (hi : okA i 21 = true) (hd : decode M.2.1 pc = .ok (.laload, 1)) (kk : SimG Z kx R cl sl M ex (pc + 1) ls (.long (gJ u i x) :: st) u) : SimG Z kx R cl sl M (gd (inb x (ln i)) ex) pc ls (.int x :: .ref i :: st) u := by
  refine r_gd (fun hb => ?_)
  refine ⟨?_, trivial⟩
  intro p l e s m args below meth c ad dC dI cI cJ cZ A r arr H locs hA hr hl hP hS
  obtain ⟨h1, h2⟩ := okA_s hi
  have he := wld_at (ad := ad) (cI := cI) (cJ := cJ) (cZ := cZ) (u := u) h1
  rw [cell_long h2] at he
  exact va_lald hA.1 hA.2.1 hA.2.2.2.2.2.2.2.1 hP i 1 he rfl (inb_vp hb) hd (kk.1 hA hr hl hP hS)
theorem cell_row {ad : Nat → Nat} {cI cJ cZ : ClassId} {u u2 : US} {i : Nat} (h1 : u2.1 = u.1) (h3 : u2.2.2.2 = u.2.2.2) (hA : ∀ j, j ≠ i → u2.2.1 j = u.2.1 j) (hJ : ∀ j, j ≠ i → u2.2.2.1 j = u.2.2.1 j) {j : Nat} (h : j ≠ i) : cellOf ad cI cJ cZ u2 j = cellOf ad cI cJ cZ u j := by
  unfold cellOf slA ptr
  rw [hA j h, hJ j h, h1, h3]
theorem r_iast (i : Nat) {x v : Int32} (hi : okA i 20 = true) (hd : decode M.2.1 pc = .ok (.iastore, 1)) (kk : SimG Z kx R cl sl M ex (pc + 1) ls st (sA u i x v)) : SimG Z kx R cl sl M (gd (inb x (ln i)) ex) pc ls (.int v :: .int x :: .ref i :: st) u := by
  refine r_gd (fun hb => ?_)
  refine ⟨?_, trivial⟩
  intro p l e s m args below meth c ad dC dI cI cJ cZ A r arr H locs hA hr hl hP hS
  obtain ⟨h1, h2⟩ := okA_s hi
  have he := wld_at (ad := ad) (cI := cI) (cJ := cJ) (cZ := cZ) (u := u) h1
  rw [cell_int h2] at he
  refine va_iast hA.1 hA.2.1 hA.2.2.2.2.2.2.2.1 hP (hA.2.2.2.2.2.2.2.2.1 u) hS i 0 he rfl (inb_vp hb) hd (fun H1 locs1 hP1 hD1 hS1 => ?_)
  rw [wld_set (ad := ad) (cI := cI) (cJ := cJ) (cZ := cZ) (u := u) (u2 := sA u i x v) (by rw [cell_int h2]; simp [sA]) (fun j hj => cell_row (u := u) (u2 := sA u i x v) (i := i) rfl rfl (fun k hk => by simp [sA, hk]) (fun k hk => rfl) hj)] at hP1
  exact kk.1 hA hr hl hP1 hS1
theorem r_zast (i : Nat) {x v : Int32} (hi : okA i 22 = true) (hd : decode M.2.1 pc = .ok (.bastore, 1)) (kk : SimG Z kx R cl sl M ex (pc + 1) ls st (sA u i x (vp_nar .boolean v))) : SimG Z kx R cl sl M (gd (inb x (ln i)) ex) pc ls (.int v :: .int x :: .ref i :: st) u := by
  refine r_gd (fun hb => ?_)
  refine ⟨?_, trivial⟩
  intro p l e s m args below meth c ad dC dI cI cJ cZ A r arr H locs hA hr hl hP hS
  obtain ⟨h1, h2⟩ := okA_s hi
  have he := wld_at (ad := ad) (cI := cI) (cJ := cJ) (cZ := cZ) (u := u) h1
  rw [cell_bool h2] at he
  refine va_zast hA.1 hA.2.1 hA.2.2.2.2.2.2.2.1 hP (hA.2.2.2.2.2.2.2.2.1 u) hS i 2 he rfl (inb_vp hb) hd (fun H1 locs1 hP1 hD1 hS1 => ?_)
  rw [wld_set (ad := ad) (cI := cI) (cJ := cJ) (cZ := cZ) (u := u) (u2 := sA u i x (vp_nar .boolean v)) (by rw [cell_bool h2]; simp [sA]) (fun j hj => cell_row (u := u) (u2 := sA u i x (vp_nar .boolean v)) (i := i) rfl rfl (fun k hk => by simp [sA, hk]) (fun k hk => rfl) hj)] at hP1
  exact kk.1 hA hr hl hP1 hS1
theorem r_last (i : Nat) {x : Int32} {v : Int64} (hi : okA i 21 = true) (hd : decode M.2.1 pc = .ok (.lastore, 1)) (kk : SimG Z kx R cl sl M ex (pc + 1) ls st (sJ u i x v)) : SimG Z kx R cl sl M (gd (inb x (ln i)) ex) pc ls (.long v :: .int x :: .ref i :: st) u := by
  refine r_gd (fun hb => ?_)
  refine ⟨?_, trivial⟩
  intro p l e s m args below meth c ad dC dI cI cJ cZ A r arr H locs hA hr hl hP hS
  obtain ⟨h1, h2⟩ := okA_s hi
  have he := wld_at (ad := ad) (cI := cI) (cJ := cJ) (cZ := cZ) (u := u) h1
  rw [cell_long h2] at he
  refine va_last hA.1 hA.2.1 hA.2.2.2.2.2.2.2.1 hP (hA.2.2.2.2.2.2.2.2.1 u) hS i 1 he rfl (inb_vp hb) hd (fun H1 locs1 hP1 hD1 hS1 => ?_)
  rw [wld_set (ad := ad) (cI := cI) (cJ := cJ) (cZ := cZ) (u := u) (u2 := sJ u i x v) (by rw [cell_long h2]; simp [sJ]) (fun j hj => cell_row (u := u) (u2 := sJ u i x v) (i := i) rfl rfl (fun k hk => rfl) (fun k hk => by simp [sJ, hk]) hj)] at hP1
  exact kk.1 hA hr hl hP1 hS1
theorem r_alen (i : Nat) (hi : okA i 20 = true) (hd : decode M.2.1 pc = .ok (.arraylength, 1)) (kk : SimG Z kx R cl sl M ex (pc + 1) ls (.int (Int32.ofNat (ln i)) :: st) u) : SimG Z kx R cl sl M ex pc ls (.ref i :: st) u := by
  refine ⟨?_, trivial⟩
  intro p l e s m args below meth c ad dC dI cI cJ cZ A r arr H locs hA hr hl hP hS
  obtain ⟨h1, h2⟩ := okA_s hi
  have he := wld_at (ad := ad) (cI := cI) (cJ := cJ) (cZ := cZ) (u := u) h1
  rw [cell_int h2] at he
  exact va_alen hA.1 hA.2.1 hA.2.2.2.2.2.2.2.1 hP i 0 he rfl rfl hd (kk.1 hA hr hl hP hS)
end SH
section SH2
variable {ρ : Type} {Z : QT ρ} {kx : Nat} {M : MI} {d pc : Nat} {ex : Option ρ} {ls : LL} {st : List Value} {u : US}
/-- a part of a row is in the row -/
def inr (x n : Int32) (N : Nat) : Bool := decide (0 ≤ x) && decide (0 ≤ n) && decide (x.toNatClampNeg + n.toNatClampNeg ≤ N)
theorem inr_s {x n : Int32} {N : Nat} (h : inr x n N = true) : ¬ x < 0 ∧ ¬ n < 0 ∧ x.toNatClampNeg + n.toNatClampNeg ≤ N := by
  unfold inr at h
  simp only [Bool.and_eq_true, decide_eq_true_eq, Int32.le_iff_toInt_le] at h
  obtain ⟨⟨h1, h2⟩, h3⟩ := h
  refine ⟨fun q => ?_, fun q => ?_, h3⟩
  · rw [Int32.lt_iff_toInt_lt] at q; omega
  · rw [Int32.lt_iff_toInt_lt] at q; omega
theorem ctg_sum {ad : Nat → Nat} (st : List Value) : ((st.map (av ad)).map fun v => v.category).sum = (st.map fun v => v.category).sum := by
  rw [List.map_map]
  congr 1
  apply List.map_congr_left
  intro v _
  exact av_cat ad v
theorem r_copy (i j : Nat) {idx : Nat} {sp dp n : Int32} (hi : okA i 20 = true) (hj : okA j 20 = true) (hlk : Cond.methodLink M.1.cls idx arraycopyName ∈ TB) (hnat : Cond.native arraycopyName ∈ TB) (hst : Cond.static arraycopyName ∈ TB) (hini : Cond.initialized "java/lang/System" ∈ TB) (hd1 : 1 ≤ d) (hs : (st.map fun v => v.category).sum ≤ 8) (hd : decode M.2.1 pc = .ok (.invokestatic idx, 3))
    (kk : SimQ Z kx M d ex (pc + 3) ls st (sF u j (va_cpy (u.2.1 i) (u.2.1 j) sp.toNatClampNeg dp.toNatClampNeg n.toNatClampNeg))) : SimQ Z kx M d (gd (inr sp n (ln i)) (gd (inr dp n (ln j)) ex)) pc ls (.int n :: .int dp :: .ref j :: .int sp :: .ref i :: st) u := by
  refine r_gd (fun hb1 => r_gd (fun hb2 => ?_))
  refine ⟨?_, trivial⟩
  intro p l e s m args below meth c ad dC dI cI cJ cZ A r arr H locs hA hr hl hP hS
  obtain ⟨h1, h2⟩ := okA_s hi
  obtain ⟨g1, g2⟩ := okA_s hj
  have he := wld_at (ad := ad) (cI := cI) (cJ := cJ) (cZ := cZ) (u := u) h1
  rw [cell_int h2] at he
  have he2 := wld_at (ad := ad) (cI := cI) (cJ := cJ) (cZ := cZ) (u := u) g1
  rw [cell_int g2] at he2
  obtain ⟨a1, a2, a3⟩ := inr_s hb1
  obtain ⟨b1, b2, b3⟩ := inr_s hb2
  refine va_copyi hA.1 hA.2.1 (hA.2.2.1.trans hl.1.symm) hA.2.2.2.2.1 (hA.tb hlk) (hA.tb hnat) (hA.tb hst) (hA.tb hini) hA.2.2.2.2.2.2.2.1 hP (hA.2.2.2.2.2.2.2.2.1 u) hS i j 0 0 he he2 rfl rfl rfl a1 b1 a2 a3 b3 (fun _ _ => rfl) (show 1 ≤ (rmK kx d).frames from hd1) ?_ hd (fun H1 locs1 hP1 hD1 hS1 => ?_)
  · rw [ctg_sum]
    have : nativeFrameWords "java/lang/System" "arraycopy" 5 + 11 ≤ 56 := by decide
    show _ ≤ 64 * d
    omega
  · rw [wld_set (ad := ad) (cI := cI) (cJ := cJ) (cZ := cZ) (u := u) (u2 := sF u j (va_cpy (u.2.1 i) (u.2.1 j) sp.toNatClampNeg dp.toNatClampNeg n.toNatClampNeg)) (by rw [cell_int g2]; simp [sF]) (fun q hq => cell_row (u := u) (u2 := sF u j (va_cpy (u.2.1 i) (u.2.1 j) sp.toNatClampNeg dp.toNatClampNeg n.toNatClampNeg)) (i := j) rfl rfl (fun k hk => by simp [sF, hk]) (fun k hk => rfl) hq)] at hP1
    exact kk.1 hA hr hl hP1 hS1
theorem r_max {idx : Nat} {x y : Int32} (hlk : Cond.methodLink M.1.cls idx Lib.Math.max.name ∈ TB) (hst : Cond.static Lib.Math.max.name ∈ TB) (hini : Cond.initialized "java/lang/Math" ∈ TB) (hc : Cond.code Lib.Math.max.name Lib.Math.max.code 2 (some .int) ∈ TB) (hd1 : 1 ≤ d) (hs : (st.map fun v => v.category).sum ≤ 8) (hd : decode M.2.1 pc = .ok (.invokestatic idx, 3))
    (kk : SimQ Z kx M d ex (pc + 3) ls (.int (if x < y then y else x) :: st) u) : SimQ Z kx M d ex pc ls (.int y :: .int x :: st) u := by
  refine ⟨?_, trivial⟩
  intro p l e s m args below meth c ad dC dI cI cJ cZ A r arr H locs hA hr hl hP hS
  exact va_mmax hA.1 hA.2.1 (hA.2.2.1.trans hl.1.symm) hA.2.2.2.2.1 (hA.tb hlk) (hA.tb hst) (hA.tb hini) (hA.tb hc) (show 1 ≤ (rmK kx d).frames from hd1) (by rw [ctg_sum]; show _ ≤ 64 * d; omega) (Nat.zero_le _) (Nat.zero_le _) hd (kk.1 hA hr hl hP hS)
theorem r_min {idx : Nat} {x y : Int32} (hlk : Cond.methodLink M.1.cls idx Lib.Math.min.name ∈ TB) (hst : Cond.static Lib.Math.min.name ∈ TB) (hini : Cond.initialized "java/lang/Math" ∈ TB) (hc : Cond.code Lib.Math.min.name Lib.Math.min.code 2 (some .int) ∈ TB) (hd1 : 1 ≤ d) (hs : (st.map fun v => v.category).sum ≤ 8) (hd : decode M.2.1 pc = .ok (.invokestatic idx, 3))
    (kk : SimQ Z kx M d ex (pc + 3) ls (.int (if y < x then y else x) :: st) u) : SimQ Z kx M d ex pc ls (.int y :: .int x :: st) u := by
  refine ⟨?_, trivial⟩
  intro p l e s m args below meth c ad dC dI cI cJ cZ A r arr H locs hA hr hl hP hS
  exact va_mmin hA.1 hA.2.1 (hA.2.2.1.trans hl.1.symm) hA.2.2.2.2.1 (hA.tb hlk) (hA.tb hst) (hA.tb hini) (hA.tb hc) (show 1 ≤ (rmK kx d).frames from hd1) (by rw [ctg_sum]; show _ ≤ 64 * d; omega) (Nat.zero_le _) (Nat.zero_le _) hd (kk.1 hA hr hl hP hS)
theorem r_abs {idx : Nat} {x : Int32} (hlk : Cond.methodLink M.1.cls idx Lib.Math.abs.name ∈ TB) (hst : Cond.static Lib.Math.abs.name ∈ TB) (hini : Cond.initialized "java/lang/Math" ∈ TB) (hc : Cond.code Lib.Math.abs.name Lib.Math.abs.code 1 (some .int) ∈ TB) (hd1 : 1 ≤ d) (hs : (st.map fun v => v.category).sum ≤ 8) (hd : decode M.2.1 pc = .ok (.invokestatic idx, 3))
    (kk : SimQ Z kx M d ex (pc + 3) ls (.int (if 0 ≤ x then x else 0 - x) :: st) u) : SimQ Z kx M d ex pc ls (.int x :: st) u := by
  refine ⟨?_, trivial⟩
  intro p l e s m args below meth c ad dC dI cI cJ cZ A r arr H locs hA hr hl hP hS
  exact va_mabs hA.1 hA.2.1 (hA.2.2.1.trans hl.1.symm) hA.2.2.2.2.1 (hA.tb hlk) (hA.tb hst) (hA.tb hini) (hA.tb hc) (show 1 ≤ (rmK kx d).frames from hd1) (by rw [ctg_sum]; show _ ≤ 64 * d; omega) (Nat.zero_le _) (Nat.zero_le _) hd (kk.1 hA hr hl hP hS)
/-! calls -/
/-- behind a call that answered res -/
theorem aft {p : Program} {l : Launch} {e : Env} {R : Room} {s : State} {m : MethodId} {args : Array Value} {below : List Frame} {meth : Method} {c : Code} {H : Heap} {locs : List Loc} {Q : State → Prop} {arr : Array Slot} {rest st0 : List Value} {a : Array Value} {A0 A1 : Nat → Prop} {free : Addr → Prop} {ad : Nat → Nat} {dC : Nat → ClassId} {dI : Nat → Nat → Nat} {cI cJ cZ : ClassId} {res : Option Value × US}
    (hr : va_Run p l e R s m args below meth c H locs 0 0 0 0 (F0 m pc arr st0) rest (QA ad dC dI cI cJ cZ A1 res a) free) (hS : va_S A0 s.heap H locs) (hA : ∀ q, q < H.size → A1 q → A0 q) (hf : ∀ q, free q → A0 q)
    (kk : ∀ (H1 : Heap) (locs1 : List Loc), va_P (dC, dI) vwCl (wld ad cI cJ cZ res.2) H1 → va_S A0 s.heap H1 locs1 → W p l e R s m args below meth c H1 locs1 0 0 Q (F0 m (pc + 3) arr (res.1.toList ++ rest))) : W p l e R s m args below meth c H locs 0 0 Q (F0 m pc arr st0) := by
  intro T hT X
  obtain ⟨v, st₀, t, T', L, h0, X', hL, e1, e2, ⟨⟨hv, hb⟩, hz, hk⟩, stp⟩ := hr T hT X
  cases hv
  rw [h0] at hz hk
  obtain ⟨t2, a1, b1⟩ := kk T'.heap (locs ++ L) (by rw [e1]; exact hb)
    ⟨Nat.le_trans hS.1 (by rw [e1]; exact hz), fun q h1 h2 => by rw [e1, hk q (Nat.lt_of_lt_of_le h1 hS.1) (fun z => h2 (hA q (Nat.lt_of_lt_of_le h1 hS.1) z))]; exact hS.2.1 q h1 h2, fun q hq => by
      rcases List.mem_append.mp hq with h | h
      · exact hS.2.2 q h
      · exact hf _ (hL q h)⟩ T' rfl X'
  exact ⟨t2, stp t2 a1, b1⟩
theorem frA {A : Nat → Prop} {s : State} {H : Heap} {locs : List Loc} {ad : Nat → Nat} {cI cJ cZ : ClassId} {u : US} (hD : va_D A (wld ad cI cJ cZ u)) (hA : ∀ q : Nat, s.heap.size ≤ q → A q) (hS : va_S A s.heap H locs) : ∀ q, va_A (wld ad cI cJ cZ u) H.size q → A q := by
  intro q hq
  rcases hq with ⟨k, e, hk⟩ | hq
  · exact hD.2 k _ hk
  · exact hA q (Nat.le_trans hS.1 hq)
theorem PA_blind {ad : Nat → Nat} {dC : Nat → ClassId} {dI : Nat → Nat → Nat} {cI cJ cZ : ClassId} {sz : Nat} {u : US} {vs : List Value} : FrameBlind (va_Pc vs (PA ad dC dI cI cJ cZ sz u)) := by
  intro a U g mk h
  obtain ⟨h0, h1, h2, h3, h4, h5, h6⟩ := h
  exact ⟨h0, h1, h2, va_K.moved (u := U) (U := U.calling g mk a) (Vm.Alike.refl U.vm) h3, h4, NW.same (s := U) (U := U.calling g mk a) rfl h5, h6.same (U := U.calling g mk a) rfl⟩
theorem wsM_good {M Mc : MI} (hc : Cond.code Mc.1 Mc.2.1 Mc.2.2.1 Mc.2.2.2 ∈ TB) : GoodIn (wsM M) (wsM Mc) := by
  intro w hw
  have h : w ∈ TB := by
    rcases List.mem_cons.mp hw with rfl | h
    · exact hc
    · exact h
  exact ⟨List.mem_cons_of_mem _ h, good_of_word (List.mem_filter.mp h).2⟩
/-- what a call of Mc needs of the tables -/
def CK (Mc : MI) (n : Nat) : Prop := Cond.code Mc.1 Mc.2.1 Mc.2.2.1 Mc.2.2.2 ∈ TB ∧ Cond.initialized Mc.1.cls ∈ TB ∧ Mc.1.cls ≠ "java/lang/invoke/MethodHandle" ∧ Mc.1.cls ≠ "java/lang/invoke/VarHandle" ∧ (parseMethodDescriptor Mc.1.desc).map (fun d => d.parameters.length) = some n ∧ Mc.2.2.1 ≤ 45
def KV (own : String) (idx : Nat) (Mc : MI) (n ci : Nat) : Prop := CK Mc n ∧ Cond.methodLink own idx Mc.1 ∈ TB ∧ Cond.instanceMethod Mc.1 ∈ TB ∧ Cond.selects Mc.1.cls Mc.1 Mc.1 ∈ TB ∧ ∃ T : u_T, vwCl[ci]? = some (Mc.1.cls, T, nF ci)
def KS (own : String) (idx : Nat) (Mc : MI) (n : Nat) : Prop := CK Mc n ∧ Cond.methodLink own idx Mc.1 ∈ TB ∧ Cond.static Mc.1 ∈ TB
def KN (own : String) (idx : Nat) (Mc : MI) (n : Nat) : Prop := CK Mc n ∧ (∃ h : String, Cond.methodLinkNest own idx Mc.1 h ∈ lw_tbl) ∧ Cond.static Mc.1 ∈ TB
theorem ck_B {kx : Nat} {Mc : MI} {n dc : Nat} {R : Room} {s : State} {args : Array Value} {own : String} {idx : Nat} (h : CK Mc n) (hts : ∀ w ∈ wsM M, w.before args s = true) (hl : (Cond.methodLink own idx Mc.1).before args s = true) (hR : R = rmK kx d) (hdc : dc < d) : CallB R s args own idx Mc.1 Mc.2.1 Mc.2.2.1 Mc.2.2.2 (wsM Mc) (rmD dc) 0 0 n := by
  obtain ⟨h1, h2, h3, h4, h5, h6⟩ := h
  subst hR
  exact callB_of n hts (wsM_good h1) rfl rfl rfl (hts _ (List.mem_cons_of_mem _ h2)) hl ⟨h3, h4, h5⟩ ⟨show dc + 1 ≤ d from hdc, show 8 + (Mc.2.2.1 + 11) + 64 * dc ≤ 64 * d by omega⟩
theorem r_callV {Mc : MI} {dc n ci idx i : Nat} {As : List Value} {res : Option Value × US} (kv : KV M.1.cls idx Mc n ci) (hi : okO i ci = true) (hdc : dc < d) (hn : As.length = n) (hm : MetC Mc dc (.ref i :: As) u res) (hs : (st.map fun v => v.category).sum ≤ 8) (hd : decode M.2.1 pc = .ok (.invokevirtual idx, 3)) {st0 : List Value} (hst : st0 = As.reverse ++ .ref i :: st)
    (hv : res.1.map (av (fun x => x)) = res.1) (hav : ∀ ad : Nat → Nat, res.1.map (av ad) = res.1) (kk : SimQ Z kx M d ex (pc + 3) ls (res.1.toList ++ st) res.2) : SimQ Z kx M d ex pc ls st0 u := by
  refine ⟨?_, trivial⟩
  intro p l e s m args below meth c ad dC dI cI cJ cZ A r arr H locs hA hr hl hP hS
  subst hst
  obtain ⟨ck, k1, k2, k3, T, k4⟩ := kv
  obtain ⟨h1, h2, h3⟩ := okO_s hi
  have he := wld_at (ad := ad) (cI := cI) (cJ := cJ) (cZ := cZ) (u := u) h1
  rw [cell_obj h2 h3] at he
  have hD := hA.2.2.2.2.2.2.2.2.1 u
  have hf := frA hD hA.2.2.2.2.2.2.2.2.2.1 hS
  refine aft (A1 := va_A (wld ad cI cJ cZ u) H.size) (rest := st.map (av ad)) (res := res) (va_runV (As := As.map (av ad)) (b := ad i) (Ts := wsM M) (own := M.1.cls) (C := Mc.1.cls) ⟨hA.1, hA.2.1, hA.2.2.1, hA.2.2.2.2.1, hA.2.2.2.2.2.1⟩ (hm l hA.2.2.2.2.2.2.2.2.2.2.2.2.1 ad dC dI cI cJ cZ H.size) ⟨ck_B ck hA.2.2.2.2.2.1 (hA.tb k1) rfl hdc, hA.tb k2, hA.tb k3⟩ ⟨PA_blind, va_recv hA.2.2.2.2.2.2.2.1 hP k4 he, fun U hU hW => ⟨rfl, by rw [hU], by rw [hU]; exact hP, va_K.moved hW.alike hA.2.2.2.2.2.2.2.1, hD.weaken (fun _ _ _ _ => trivial), NW.warm hW hA.2.2.2.2.2.2.2.2.2.2.1, by rw [hU]; exact hA.2.2.2.2.2.2.2.2.2.2.2.1.go hS.2.1 hW hf⟩⟩ rfl (by simpa using hn) hl.1 (by simp [av]) (lv_room (by rw [ctg_sum]; exact hs)) hd ⟨Nat.zero_le _, Nat.zero_le _⟩) hS (fun q _ h => hf q h) hf (fun H1 locs1 hP1 hS1 => ?_)
  have := kk.1 hA hr hl hP1 hS1 (p := p) (l := l) (e := e) (below := below)
  rw [List.map_append] at this
  have e2 : res.1.toList.map (av ad) = res.1.toList := by
    have := hav ad
    cases hq : res.1 with
    | none => rfl
    | some w => rw [hq] at this; simp only [Option.map_some, Option.some.injEq] at this; simp [this]
  rw [e2] at this
  exact this
theorem r_callS {Mc : MI} {dc n idx : Nat} {As : List Value} {res : Option Value × US} (kv : KS M.1.cls idx Mc n) (hdc : dc < d) (hn : As.length = n) (hm : MetC Mc dc As u res) (hs : (st.map fun v => v.category).sum ≤ 8) (hd : decode M.2.1 pc = .ok (.invokestatic idx, 3)) {st0 : List Value} (hst : st0 = As.reverse ++ st)
    (hav : ∀ ad : Nat → Nat, res.1.map (av ad) = res.1) (kk : SimQ Z kx M d ex (pc + 3) ls (res.1.toList ++ st) res.2) : SimQ Z kx M d ex pc ls st0 u := by
  refine ⟨?_, trivial⟩
  intro p l e s m args below meth c ad dC dI cI cJ cZ A r arr H locs hA hr hl hP hS
  subst hst
  obtain ⟨ck, k1, k2⟩ := kv
  have hD := hA.2.2.2.2.2.2.2.2.1 u
  have hf := frA hD hA.2.2.2.2.2.2.2.2.2.1 hS
  refine aft (A1 := va_A (wld ad cI cJ cZ u) H.size) (rest := st.map (av ad)) (res := res) (va_runS (As := As.map (av ad)) (Ts := wsM M) (own := M.1.cls) ⟨hA.1, hA.2.1, hA.2.2.1, hA.2.2.2.2.1, hA.2.2.2.2.2.1⟩ (hm l hA.2.2.2.2.2.2.2.2.2.2.2.2.1 ad dC dI cI cJ cZ H.size) ⟨ck_B ck hA.2.2.2.2.2.1 (hA.tb k1) rfl hdc, hA.tb k2⟩ ⟨PA_blind, fun U hU hW => ⟨rfl, by rw [hU], by rw [hU]; exact hP, va_K.moved hW.alike hA.2.2.2.2.2.2.2.1, hD.weaken (fun _ _ _ _ => trivial), NW.warm hW hA.2.2.2.2.2.2.2.2.2.2.1, by rw [hU]; exact hA.2.2.2.2.2.2.2.2.2.2.2.1.go hS.2.1 hW hf⟩⟩ rfl (by simpa using hn) hl.1 (by simp) (lv_room (by rw [ctg_sum]; exact hs)) hd ⟨Nat.zero_le _, Nat.zero_le _⟩) hS (fun q _ h => hf q h) hf (fun H1 locs1 hP1 hS1 => ?_)
  have := kk.1 hA hr hl hP1 hS1 (p := p) (l := l) (e := e) (below := below)
  rw [List.map_append] at this
  have e2 : res.1.toList.map (av ad) = res.1.toList := by
    have := hav ad
    cases hq : res.1 with
    | none => rfl
    | some w => rw [hq] at this; simp only [Option.map_some, Option.some.injEq] at this; simp [this]
  rw [e2] at this
  exact this
theorem r_callN {Mc : MI} {dc n idx : Nat} {As : List Value} {res : Option Value × US} (kv : KN M.1.cls idx Mc n) (hdc : dc < d) (hn : As.length = n) (hm : MetC Mc dc As u res) (hs : (st.map fun v => v.category).sum ≤ 8) (hd : decode M.2.1 pc = .ok (.invokestatic idx, 3)) {st0 : List Value} (hst : st0 = As.reverse ++ st)
    (hav : ∀ ad : Nat → Nat, res.1.map (av ad) = res.1) (kk : SimQ Z kx M d ex (pc + 3) ls (res.1.toList ++ st) res.2) : SimQ Z kx M d ex pc ls st0 u := by
  refine ⟨?_, trivial⟩
  intro p l e s m args below meth c ad dC dI cI cJ cZ A r arr H locs hA hr hl hP hS
  subst hst
  obtain ⟨⟨c1, c2, c3, c4, c5, c6⟩, ⟨host, k1⟩, k2⟩ := kv
  have hD := hA.2.2.2.2.2.2.2.2.1 u
  have hf := frA hD hA.2.2.2.2.2.2.2.2.2.1 hS
  refine aft (A1 := va_A (wld ad cI cJ cZ u) H.size) (rest := st.map (av ad)) (res := res) (va_runSN (As := As.map (av ad)) (Ts := wsM M) (own := M.1.cls) (host := host) ⟨hA.1, hA.2.1, hA.2.2.1, hA.2.2.2.2.1, hA.2.2.2.2.2.1⟩ (hm l hA.2.2.2.2.2.2.2.2.2.2.2.2.1 ad dC dI cI cJ cZ H.size) ⟨va_cnB n hA.2.2.2.2.2.1 (wsM_good c1) rfl rfl rfl (hA.2.2.2.2.2.2.2.2.2.2.1.2 _ _ _ _ k1) (hA.tb c2) ⟨c3, c4, c5⟩ ⟨show dc + 1 ≤ d from hdc, show 8 + (Mc.2.2.1 + 11) + 64 * dc ≤ 64 * d by omega⟩, hA.tb k2, trivial⟩ ⟨PA_blind, fun U hU hW => ⟨rfl, by rw [hU], by rw [hU]; exact hP, va_K.moved hW.alike hA.2.2.2.2.2.2.2.1, hD.weaken (fun _ _ _ _ => trivial), NW.warm hW hA.2.2.2.2.2.2.2.2.2.2.1, by rw [hU]; exact hA.2.2.2.2.2.2.2.2.2.2.2.1.go hS.2.1 hW hf⟩⟩ rfl (by simpa using hn) hl.1 (by simp) (lv_room (by rw [ctg_sum]; exact hs)) hd ⟨Nat.zero_le _, Nat.zero_le _⟩) hS (fun q _ h => hf q h) hf (fun H1 locs1 hP1 hS1 => ?_)
  have := kk.1 hA hr hl hP1 hS1 (p := p) (l := l) (e := e) (below := below)
  rw [List.map_append] at this
  have e2 : res.1.toList.map (av ad) = res.1.toList := by
    have := hav ad
    cases hq : res.1 with
    | none => rfl
    | some w => rw [hq] at this; simp only [Option.map_some, Option.some.injEq] at this; simp [this]
  rw [e2] at this
  exact this
end SH2
