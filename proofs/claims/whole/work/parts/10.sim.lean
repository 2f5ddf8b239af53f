/-! THE PICTURE OF THE MACHINE: a state of the system is a US: int fields, int and boolean rows, long rows, the two references that move. Sim says: what the plain text 'ex' answers, the machine answers from here. -/
abbrev US : Type := (Nat → Nat → Int32) × (Nat → Nat → Int32) × (Nat → Nat → Int64) × (Nat → Nat)
def av (ad : Nat → Nat) (v : Value) : Value := match v with
  | .ref i => .ref (ad i)
  | w => w
theorem av_cat (ad : Nat → Nat) (v : Value) : (av ad v).category = v.category := by cases v <;> rfl
/-- the references that move: town.rule is 0, main.spare is 1 -/
def ptr (u : US) (i k : Nat) : Nat := if i = 3 ∧ k = 11 then u.2.2.2 0 else if i = 0 ∧ k = 12 then u.2.2.2 1 else fpt i k
def slA (u : US) (i k : Nat) : Value := if isR (kd i) k then .ref (ptr u i k) else .int (u.1 i k)
def cellOf (ad : Nat → Nat) (cI cJ cZ : ClassId) (u : US) (i : Nat) : va_E :=
  if kd i = 20 then .inl (cI, ln i, .inl (u.2.1 i))
  else if kd i = 21 then .inl (cJ, ln i, .inr (.inl (u.2.2.1 i)))
  else if kd i = 22 then .inl (cZ, ln i, .inl (u.2.1 i))
  else .inr (kd i, (List.range (nF (kd i))).map (fun k => av ad (slA u i k)))
def wld (ad : Nat → Nat) (cI cJ cZ : ClassId) (u : US) : va_W := (List.range NID).map (fun i => (ad i, cellOf ad cI cJ cZ u i))
theorem wld_at {ad : Nat → Nat} {cI cJ cZ : ClassId} {u : US} {i : Nat} (h : i < NID) : (wld ad cI cJ cZ u)[i]? = some (ad i, cellOf ad cI cJ cZ u i) := by
  simp [wld, h]
theorem wld_in {ad : Nat → Nat} {cI cJ cZ : ClassId} {u : US} {i : Nat} {q : Nat × va_E} (h : (wld ad cI cJ cZ u)[i]? = some q) : i < NID ∧ q = (ad i, cellOf ad cI cJ cZ u i) := by
  have hl : i < NID := by
    have := (List.getElem?_eq_some_iff.mp h).1
    simpa [wld] using this
  exact ⟨hl, Option.some.inj (h.symm.trans (wld_at hl))⟩
theorem wld_set {ad : Nat → Nat} {cI cJ cZ : ClassId} {u u2 : US} {i : Nat} {e : va_E} (hc : cellOf ad cI cJ cZ u2 i = e) (ho : ∀ j, j ≠ i → cellOf ad cI cJ cZ u2 j = cellOf ad cI cJ cZ u j) : (wld ad cI cJ cZ u).set i (ad i, e) = wld ad cI cJ cZ u2 := by
  apply List.ext_getElem?
  intro j
  rw [List.getElem?_set]
  by_cases hj : i = j
  · subst hj
    by_cases hl : i < NID
    · simp [wld, hl, hc]
    · simp [wld, hl]
  · rw [if_neg hj]
    by_cases hl : j < NID
    · rw [wld_at hl, wld_at hl, ho j (fun h => hj h.symm)]
    · simp [wld, hl]
theorem wld_D {ad : Nat → Nat} {cI cJ cZ : ClassId} {u : US} {A : Nat → Prop} (h : va_D A (wld ad cI cJ cZ u)) (u2 : US) : va_D A (wld ad cI cJ cZ u2) := by
  refine ⟨fun i j p q hi hj he => ?_, fun k q hk => ?_⟩
  · obtain ⟨li, rfl⟩ := wld_in hi
    obtain ⟨lj, rfl⟩ := wld_in hj
    exact h.1 i j _ _ (wld_at li) (wld_at lj) he
  · obtain ⟨lk, rfl⟩ := wld_in hk
    exact h.2 k (ad k, cellOf ad cI cJ cZ u k) (wld_at lk)
/-! changes of a state -/
def sI (u : US) (i k : Nat) (v : Int32) : US := (fun a b => if a = i then (if b = k then v else u.1 a b) else u.1 a b, u.2)
def sA (u : US) (i : Nat) (x : Int32) (v : Int32) : US := (u.1, fun a => if a = i then upd (u.2.1 a) x.toNatClampNeg v else u.2.1 a, u.2.2)
def sF (u : US) (i : Nat) (f : Nat → Int32) : US := (u.1, fun a => if a = i then f else u.2.1 a, u.2.2)
def sJ (u : US) (i : Nat) (x : Int32) (v : Int64) : US := (u.1, u.2.1, fun a => if a = i then vp_updL (u.2.2.1 a) x.toNatClampNeg v else u.2.2.1 a, u.2.2.2)
def sR (u : US) (k : Nat) (v : Nat) : US := (u.1, u.2.1, u.2.2.1, fun a => if a = k then v else u.2.2.2 a)
abbrev gI (u : US) (i k : Nat) : Int32 := u.1 i k
abbrev gA (u : US) (i : Nat) (x : Int32) : Int32 := u.2.1 i x.toNatClampNeg
abbrev gJ (u : US) (i : Nat) (x : Int32) : Int64 := u.2.2.1 i x.toNatClampNeg
abbrev gR (u : US) (k : Nat) : Nat := u.2.2.2 k
/-! plain texts: an answer, or nothing where the machine would throw -/
def gd {ρ : Type} (b : Bool) (e : Option ρ) : Option ρ := cond b e none
def oB {α ρ : Type} (f : Option (α × US)) (k : α → US → Option ρ) : Option ρ := match f with
  | some (a, v) => k a v
  | none => none
def oV {ρ : Type} (f : Option US) (k : US → Option ρ) : Option ρ := match f with
  | some v => k v
  | none => none
def inb (x : Int32) (n : Nat) : Bool := decide (0 ≤ x) && decide (x.toNatClampNeg < n)
theorem inb_vp {x : Int32} {n : Nat} (h : inb x n = true) : vp_in x n := by
  unfold inb at h
  simp only [Bool.and_eq_true, decide_eq_true_eq] at h
  intro hq
  rcases hq with hq | hq
  · rw [Int32.lt_iff_toInt_lt] at hq
    have := h.1
    rw [Int32.le_iff_toInt_le] at this
    omega
  · omega
abbrev tI (r : Int32 × US) : Option Value × US := (some (.int r.1), r.2)
abbrev tJ (r : Int64 × US) : Option Value × US := (some (.long r.1), r.2)
abbrev tV (r : US) : Option Value × US := (none, r)
/-! words, room, contracts -/
def XL : List Cond := vx_at0 RX11 169 "java/util/NoSuchElementException" ["java/lang/RuntimeException", "java/lang/Exception"]
def XB : List Cond := XL.filter (fun w => !goodWord w)
def isDC : Cond → Bool
  | .declares _ => true
  | .castable _ _ => true
  | _ => false
theorem XB_dc : XB.all isDC = true := by decide +kernel
theorem XB_warm {w : Cond} (hw : w ∈ XB) {s U : State} (hW : s.WarmedH U.vm) (h : va_Nw w s) : va_Nw w U := by
  have h1 := List.all_eq_true.mp XB_dc w hw
  revert h h1
  cases w <;> intro h h1 <;> first | exact va_Nw.warmD hW h | exact va_Nw.warmC hW h | cases h1
def NW (U : State) : Prop := (∀ w ∈ XB, va_Nw w U) ∧ ∀ (a : String) (i : Nat) (y : MethodName) (h : String), Cond.methodLinkNest a i y h ∈ lw_tbl → va_Nw (.methodLinkNest a i y h) U
theorem NW.warm {s U : State} (hW : s.WarmedH U.vm) (h : NW s) : NW U := ⟨fun w hw => XB_warm hw hW (h.1 w hw), fun a i y q hm => va_Nw.warmM hW (h.2 a i y q hm)⟩
theorem XB_ot : XB.all (fun w => w.onTables) = true := by decide +kernel
theorem NW.same {s U : State} (hW : s.vm = U.vm) (h : NW s) : NW U := ⟨fun w hw => va_Nw.same (List.all_eq_true.mp XB_ot w hw) hW (h.1 w hw), fun a i y q hm => va_Nw.same rfl hW (h.2 a i y q hm)⟩
/-! the model's texts, and what stands still around the system -/
def txS : List String := ["abcdefgh", "urdls", "kslhnt", "<>=", "+-", "*/", "hpobc"]
def idxS : List Nat := [201, 227, 271, 276, 278, 280, 394]
def lenS : List Nat := [8, 5, 6, 3, 2, 2, 5]
def bytS : List (List Int32) := [[97, 98, 99, 100, 101, 102, 103, 104], [117, 114, 100, 108, 115], [107, 115, 108, 104, 110, 116], [60, 62, 61], [43, 45], [42, 47], [104, 112, 111, 98, 99]]
def SX (ad : Nat → Nat) (A : Nat → Prop) (U : State) (H : Heap) : Prop :=
  vk_S 7 lenS bytS (fun j => ad (100 + j)) (fun j => ad (110 + j)) A U H ∧ (∀ j, j < 7 → vk_R RX12 (idxS.getD j 0) (txS.getD j "") (ad (100 + j)) U) ∧
  va_Z "java/lang/String" "COMPACT_STRINGS" "Z" (.int 1) A U H ∧ (va_Z "jdk/internal/util/Preconditions" "SIOOBE_FORMATTER" "Ljava/util/function/BiFunction;" .null A U H ∨ va_Z "jdk/internal/util/Preconditions" "SIOOBE_FORMATTER" "Ljava/util/function/BiFunction;" (.ref (ad 120)) A U H) ∧
  vx_Zq Bundle.tN "UNASSIGNED_STACK" Bundle.steD A U H ∧ vx_Zq Bundle.tN "SUPPRESSED_SENTINEL" Bundle.listD A U H
theorem SX.go {ad : Nat → Nat} {A B : Nat → Prop} {s U : State} {H0 H : Heap} (h : SX ad A s H0) (hq : ∀ a : Nat, a < H0.size → ¬ A a → H[a]? = H0[a]?) (hW : s.WarmedH U.vm) (hAB : ∀ q, B q → A q) : SX ad B U H := by
  obtain ⟨h1, h2, h3, h4, h5, h6⟩ := h
  exact ⟨((h1.moved hW.alike).kept hq).narrow hAB, fun j hj => (h2 j hj).warm hW, ((h3.moved hW.alike).kept hq).narrow hAB, h4.imp (fun h4 => ((h4.moved hW.alike).kept hq).narrow hAB) (fun h4 => ((h4.moved hW.alike).kept hq).narrow hAB), ((h5.moved hW.alike).kept hq).narrow hAB, ((h6.moved hW.alike).kept hq).narrow hAB⟩
theorem SX.same {ad : Nat → Nat} {A : Nat → Prop} {s U : State} {H : Heap} (h : SX ad A s H) (hv : s.vm = U.vm) : SX ad A U H := by
  obtain ⟨h1, h2, h3, h4, h5, h6⟩ := h
  have ha : s.vm.Alike U.vm := by rw [hv]; exact Vm.Alike.refl U.vm
  exact ⟨h1.moved ha, fun j hj => (h2 j hj).same hv.symm, h3.moved ha, h4.imp (fun h => h.moved ha) (fun h => h.moved ha), h5.moved ha, h6.moved ha⟩
def wsM (M : MI) : List Cond := .code M.1 M.2.1 M.2.2.1 M.2.2.2 :: TB
def rmK (k d : Nat) : Room := { frames := d, cells := k, slots := 6 * k, locals := 64 * d }
abbrev rmD (d : Nat) : Room := rmK 0 d
abbrev tyC (cI cJ cZ : ClassId) : List (ClassId × FieldType) := [(cI, .int), (cJ, .long), (cZ, .boolean)]
def QA (ad : Nat → Nat) (dC : Nat → ClassId) (dI : Nat → Nat → Nat) (cI cJ cZ : ClassId) (A : Nat → Prop) (res : Option Value × US) : Array Value → State → Outcome → State → Prop := fun _ st oc t =>
  (oc = .returned res.1 ∧ va_P (dC, dI) vwCl (wld ad cI cJ cZ res.2) t.heap) ∧ va_F A st t
def PA (ad : Nat → Nat) (dC : Nat → ClassId) (dI : Nat → Nat → Nat) (cI cJ cZ : ClassId) (sz : Nat) (u : US) (U : State) : Prop :=
  U.heap.size = sz ∧ va_P (dC, dI) vwCl (wld ad cI cJ cZ u) U.heap ∧ va_K (dC, dI) vwCl (tyC cI cJ cZ) U ∧ va_D (fun _ => True) (wld ad cI cJ cZ u) ∧ NW U ∧ SX ad (va_A (wld ad cI cJ cZ u) sz) U U.heap
/-- the contract of a method at a state: it answers res -/
def MetC (M : MI) (d : Nat) (avs : List Value) (u : US) (res : Option Value × US) : Prop :=
  ∀ (l : Launch), l.stackTraces = false → ∀ (ad : Nat → Nat) (dC : Nat → ClassId) (dI : Nat → Nat → Nat) (cI cJ cZ : ClassId) (sz : Nat),
    Met l M.1 (wsM M) (rmD d) (va_Pc (avs.map (av ad)) (PA ad dC dI cI cJ cZ sz u)) (QA ad dC dI cI cJ cZ (va_A (wld ad cI cJ cZ u) sz) res) 0 0 (va_A (wld ad cI cJ cZ u) sz)
/-! locals -/
abbrev LL : Type := List (Option Value)
def Rl (ad : Nat → Nat) (n : Nat) (ls : LL) (arr : Array Slot) : Prop := arr.size = n ∧ lv_wf arr ∧ ∀ (i : Nat) (v : Value), ls[i]? = some (some v) → arr[i]? = some (.val (av ad v))
def isL (x : Option (Option Value)) : Bool := match x with
  | some (some v) => v.category == 2
  | _ => false
def st1 (ls : LL) (i : Nat) (v : Value) : LL := match i with
  | 0 => ls.set 0 (some v)
  | j + 1 => (if isL ls[j]? then ls.set j none else ls).set (j + 1) (some v)
def st2 (ls : LL) (i : Nat) (v : Value) : LL := match i with
  | 0 => (ls.set 0 (some v)).set 1 none
  | j + 1 => ((if isL ls[j]? then ls.set j none else ls).set (j + 1) (some v)).set (j + 2) none
def asc (ad : Nat → Nat) (ls : LL) : List (Nat × Value) := (List.range ls.length).filterMap (fun i => match ls[i]? with | some (some v) => some (i, av ad v) | _ => none)
theorem asc_mem {ad : Nat → Nat} {ls : LL} {i : Nat} {w : Value} : (i, w) ∈ asc ad ls ↔ ∃ v, ls[i]? = some (some v) ∧ w = av ad v := by
  unfold asc
  rw [List.mem_filterMap]
  constructor
  · rintro ⟨j, hj, he⟩
    revert he
    cases hq : ls[j]? with
    | none => intro he; cases he
    | some x =>
      cases x with
      | none => intro he; cases he
      | some v =>
        intro he
        cases he
        exact ⟨v, hq, rfl⟩
  · rintro ⟨v, hv, rfl⟩
    refine ⟨i, List.mem_range.mpr (List.getElem?_eq_some_iff.mp hv).1, ?_⟩
    rw [hv]
theorem Rl_has {ad : Nat → Nat} {n : Nat} {ls : LL} {arr : Array Slot} (h : Rl ad n ls arr) : lv_has arr n (asc ad ls) := ⟨h.1, h.2.1, fun q hq => by
  obtain ⟨v, hv, he⟩ := asc_mem (w := q.2).mp hq
  rw [he]
  exact h.2.2 _ _ hv⟩
theorem Rl_st1 {ad : Nat → Nat} {n : Nat} {ls : LL} {arr : Array Slot} {i : Nat} {v : Value} (h : lv_has arr n ((i, av ad v) :: (asc ad ls).filter (fun q => !(q.1 == i) && !(q.1 + 1 == i && q.2.category == 2)))) : Rl ad n (st1 ls i v) arr := by
  refine ⟨h.1, h.2.1, fun j w hj => ?_⟩
  refine h.2.2 (j, av ad w) ?_
  by_cases hji : j = i
  · subst hji
    have : w = v := by
      unfold st1 at hj
      split at hj
      · have := List.getElem?_eq_some_iff.mp hj
        obtain ⟨hl, he⟩ := this
        simpa using he.symm
      · have := List.getElem?_eq_some_iff.mp hj
        obtain ⟨hl, he⟩ := this
        simpa using he.symm
    rw [this]
    exact List.mem_cons_self
  · refine List.mem_cons_of_mem _ (List.mem_filter.mpr ⟨asc_mem.mpr ⟨w, ?_, rfl⟩, ?_⟩)
    · unfold st1 at hj
      split at hj
      · rwa [List.getElem?_set_ne (fun q => hji q.symm)] at hj
      · rw [List.getElem?_set_ne (fun q => hji q.symm)] at hj
        split at hj
        · rw [List.getElem?_set] at hj
          split at hj
          · split at hj <;> cases hj
          · exact hj
        · exact hj
    · simp only [Bool.and_eq_true, Bool.not_eq_true', beq_eq_false_iff_ne, ne_eq, Bool.and_eq_false_iff]
      refine ⟨hji, ?_⟩
      by_cases hq : j + 1 = i
      · right
        subst hq
        unfold st1 at hj
        simp only at hj
        rw [List.getElem?_set_ne (by omega)] at hj
        split at hj
        · rw [List.getElem?_set] at hj
          rw [if_pos rfl] at hj
          split at hj <;> cases hj
        · rename_i hn
          rw [hj] at hn
          rw [av_cat]
          simpa [isL] using hn
      · left
        exact hq
theorem Rl_st2 {ad : Nat → Nat} {n : Nat} {ls : LL} {arr : Array Slot} {i : Nat} {v : Value} (h : lv_has arr n ((i, av ad v) :: (asc ad ls).filter (fun q => !(q.1 == i) && (!(q.1 == i + 1) && !(q.1 + 1 == i && q.2.category == 2))))) : Rl ad n (st2 ls i v) arr := by
  refine ⟨h.1, h.2.1, fun j w hj => ?_⟩
  refine h.2.2 (j, av ad w) ?_
  by_cases hj1 : j = i + 1
  · subst hj1
    exfalso
    have key : ∀ (l : LL) (k : Nat), (l.set k none)[k]? ≠ some (some w) := fun l k hq => by
      rw [List.getElem?_set, if_pos rfl] at hq
      by_cases hl : k < l.length
      · rw [if_pos hl] at hq; cases hq
      · rw [if_neg hl] at hq; cases hq
    unfold st2 at hj
    split at hj
    · exact key _ _ hj
    · exact key _ _ hj
  · by_cases hji : j = i
    · subst hji
      have : w = v := by
        unfold st2 at hj
        split at hj
        · rw [List.getElem?_set_ne (by omega)] at hj
          obtain ⟨hl, he⟩ := List.getElem?_eq_some_iff.mp hj
          simpa using he.symm
        · rw [List.getElem?_set_ne (by omega)] at hj
          obtain ⟨hl, he⟩ := List.getElem?_eq_some_iff.mp hj
          simpa using he.symm
      rw [this]
      exact List.mem_cons_self
    · refine List.mem_cons_of_mem _ (List.mem_filter.mpr ⟨asc_mem.mpr ⟨w, ?_, rfl⟩, ?_⟩)
      · unfold st2 at hj
        split at hj
        · rw [List.getElem?_set_ne (by omega), List.getElem?_set_ne (by omega)] at hj
          exact hj
        · rw [List.getElem?_set_ne (by omega), List.getElem?_set_ne (by omega)] at hj
          split at hj
          · rw [List.getElem?_set] at hj
            split at hj
            · split at hj <;> cases hj
            · exact hj
          · exact hj
      · simp only [Bool.and_eq_true, Bool.not_eq_true', beq_eq_false_iff_ne, ne_eq, Bool.and_eq_false_iff]
        refine ⟨hji, hj1, ?_⟩
        by_cases hq : j + 1 = i
        · right
          subst hq
          unfold st2 at hj
          simp only at hj
          rw [List.getElem?_set_ne (by omega), List.getElem?_set_ne (by omega)] at hj
          split at hj
          · rw [List.getElem?_set] at hj
            rw [if_pos rfl] at hj
            split at hj <;> cases hj
          · rename_i hn
            rw [hj] at hn
            rw [av_cat]
            simpa [isL] using hn
        · left
          exact hq
/-- fewer locals -/
def mk (ms : List Bool) (ls : LL) : LL := List.zipWith (fun b x => if b then x else none) ms ls
theorem Rl_mk {ad : Nat → Nat} {n : Nat} {ls : LL} {arr : Array Slot} (ms : List Bool) (h : Rl ad n ls arr) : Rl ad n (mk ms ls) arr := by
  refine ⟨h.1, h.2.1, fun i v hv => h.2.2 i v ?_⟩
  unfold mk at hv
  rw [List.getElem?_zipWith] at hv
  cases h1 : ms[i]? with
  | none => rw [h1] at hv; cases hv
  | some b =>
    cases h2 : ls[i]? with
    | none => rw [h1, h2] at hv; cases hv
    | some x =>
      rw [h1, h2] at hv
      cases b with
      | false => cases hv
      | true => exact hv
/-- what stands around a method's body -/
def Amb (kx : Nat) (l : Launch) (M : MI) (p : Program) (s : State) (m : MethodId) (args : Array Value) (meth : Method) (c : Code) (ad : Nat → Nat) (dC : Nat → ClassId) (dI : Nat → Nat → Nat) (cI cJ cZ : ClassId) (A : Nat → Prop) : Prop :=
  p.tables.exec = Jvm.exec ∧ c.code = M.2.1 ∧ c.maxLocals = M.2.2.1 ∧ meth.sig.returnType = M.2.2.2 ∧ s.vm.findClass M.1.cls = some m.cls ∧ (∀ w ∈ wsM M, w.before args s = true) ∧ meth.locks = false ∧ va_K (dC, dI) vwCl (tyC cI cJ cZ) s ∧ (∀ u, va_D A (wld ad cI cJ cZ u)) ∧ (∀ q : Nat, s.heap.size ≤ q → A q) ∧ NW s ∧ SX ad A s s.heap ∧ l.stackTraces = false ∧ (kx = 1 → ∀ x ∈ c.exceptionTable.toList, False)
abbrev QT (ρ : Type) : Type := ρ → List Frame → Array Value → State → (Nat → Nat) → (Nat → ClassId) → (Nat → Nat → Nat) → ClassId → ClassId → ClassId → (Nat → Prop) → State → Prop
def SimG {ρ : Type} (Z : QT ρ) (kx : Nat) (R : Room) (cl sl : Nat) (M : MI) (ex : Option ρ) (pc : Nat) (ls : LL) (st : List Value) (u : US) : Prop :=
  (∀ {p : Program} {l : Launch} {e : Env} {s : State} {m : MethodId} {args : Array Value} {below : List Frame} {meth : Method} {c : Code} {ad : Nat → Nat} {dC : Nat → ClassId} {dI : Nat → Nat → Nat} {cI cJ cZ : ClassId} {A : Nat → Prop} {r : ρ} {arr : Array Slot} {H : Heap} {locs : List Loc},
    Amb kx l M p s m args meth c ad dC dI cI cJ cZ A → ex = some r → Rl ad M.2.2.1 ls arr → va_P (dC, dI) vwCl (wld ad cI cJ cZ u) H → va_S A s.heap H locs →
      W p l e R s m args below meth c H locs cl sl (Z r below args s ad dC dI cI cJ cZ A) (F0 m pc arr (st.map (av ad)))) ∧ True
abbrev SimQ {ρ : Type} (Z : QT ρ) (kx : Nat) (M : MI) (d : Nat) (ex : Option ρ) (pc : Nat) (ls : LL) (st : List Value) (u : US) : Prop := SimG Z kx (rmK kx d) 0 0 M ex pc ls st u
def Zr {ρ : Type} (τ : ρ → Option Value × US) : QT ρ := fun r below args s ad dC dI cI cJ cZ A => MQ below (QA ad dC dI cI cJ cZ A (τ r)) args s 0 0 A
abbrev Sim {ρ : Type} (τ : ρ → Option Value × US) (M : MI) (d : Nat) (ex : Option ρ) (pc : Nat) (ls : LL) (st : List Value) (u : US) : Prop := SimQ (Zr τ) 0 M d ex pc ls st u
