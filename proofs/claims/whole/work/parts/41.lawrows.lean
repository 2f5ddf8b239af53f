def R_law : String := "PanesOfTheDeadLaw"
def lw_P (b : Addr) (xs : List Int32) (args : Array Value) (s : State) : Prop := args = #[.ref b] ∧ s.IntsAt b xs ∧ xs.length ≤ 2560 ∧ (Jvm.Cond.and given_1 narrow_1).before args s = true
def lw_Q (_ : Array Value) (s : State) (o : Outcome) (t : State) : Prop := o = .returned (some (.int 1)) ∧ Framed s o t [] 601024 7293034
def lw_Z (below : List Frame) (a : Array Value) (s : State) : State → Prop := fun t => ∃ o, t.status = .running ∧ Ended t below o ∧ lw_Q a s o t
/-- the law's own end, with 1 on the stack, nothing written that was there before, its room as the claim has it -/
theorem lw_ret {p : Program} {l : Launch} {e : Env} {s : State} {m : MethodId} {below : List Frame} {meth : Method} {c : Code} {b : Nat} (hx : p.tables.exec = Jvm.exec) (hb : c.code = code) (hr : meth.sig.returnType = ret) (hlocks : meth.locks = false) {pc : Nat} {H : Heap} {ls : Array Slot} (hdg : decode code pc = .ok (.ireturn, 1)) : W p l e room_1 s m #[Value.ref b] below meth c H [] 601024 7293034 (lw_Z below #[Value.ref b] s) (F0 m pc ls [.int 1]) := by
  intro T hT X
  obtain ⟨fs, hret, hrun, hended, hW, hframe⟩ := X.leave (v := some (.int 1)) (hlocks := hlocks) (fun h => by rw [hr] at h; cases h)
  have hmeth' : T.vm.method? m = some meth := X.method'
  refine ⟨T.setFrames fs, ?_, .returned (some (.int 1)), hrun, hended, rfl, ⟨_, rfl⟩, hW, hframe⟩
  jvm_step X.here [X.here.top, hx, hb, hdg, hmeth', hr, ret, narrow_b1]
  (try refine ⟨rfl, ?_⟩); (try refine ⟨rfl, ?_⟩)
  first | (intro acts; rw [hret _ acts rfl rfl rfl]) | rw [hret _ _ rfl rfl rfl]
  exact Steps.refl _
/-- what holds at the law's entry: the machine, the code, the tables' words (any of lw_tbl by 'hts w (by decide +kernel)'), the script of L ints xs at the cell b, what the Statement gives of the start (any of its parts by flat_of_before) -/
def lw_At (p : Program) (s : State) (m : MethodId) (meth : Method) (c : Code) (b L : Nat) (xs : Nat → Int32) : Prop :=
  p.tables.exec = Jvm.exec ∧ c.code = code ∧ meth.sig.returnType = ret ∧ c.maxLocals = 8 ∧ s.vm.findClass R_law = some m.cls ∧ (∀ w ∈ lw_tbl, w.before #[Value.ref b] s = true) ∧ va_X b L xs s s.heap ∧ b < s.heap.size ∧ meth.locks = false ∧ (Jvm.Cond.and given_1 narrow_1).before #[Value.ref b] s = true
/-! rows for the law's own body -/
abbrev mL_law : MI := (x, code, maxLocals, ret)
def FX (L : Nat) (xs : Nat → Int32) (s : State) (args : Array Value) (ad : Nat → Nat) (A : Nat → Prop) : Prop := args = #[.ref (ad 130)] ∧ va_X (ad 130) L xs s s.heap ∧ ad 130 < s.heap.size ∧ (∀ q, A q → s.heap.size ≤ q)
def ZL (L : Nat) (xs : Nat → Int32) : QT Unit := fun _ below args s ad _ _ _ _ _ A t => FX L xs s args ad A → lw_Z below args s t
abbrev SimL (L : Nat) (xs : Nat → Int32) (cl sl : Nat) (pc : Nat) (ls : LL) (st : List Value) (u : US) : Prop := SimG (ZL L xs) 0 room_1 cl sl mL_law (some ()) pc ls st u
section SL
variable {L : Nat} {xs : Nat → Int32} {cl sl pc : Nat} {ls : LL} {st : List Value} {u : US}
theorem q_sld {i : Int32} (hi : vp_in i L) (hd : decode mL_law.2.1 pc = .ok (.iaload, 1)) (k : SimL L xs cl sl (pc + 1) ls (.int (xs i.toNatClampNeg) :: st) u) : SimL L xs cl sl pc ls (.int i :: .ref 130 :: st) u := by
  refine ⟨?_, trivial⟩
  intro p l e s m args below meth c ad dC dI cI cJ cZ A r arr H locs hA hr hl hP hS
  by_cases hF : FX L xs s args ad A
  · exact va_sld hA.1 hA.2.1 hF.2.1 hF.2.2.1 (fun h => absurd (hF.2.2.2 _ h) (by have := hF.2.2.1; omega)) hS hi hd (k.1 hA hr hl hP hS)
  · exact fun T hT X => ⟨_, Steps.refl _, fun h => absurd h hF⟩
theorem q_slen (hd : decode mL_law.2.1 pc = .ok (.arraylength, 1)) (k : SimL L xs cl sl (pc + 1) ls (.int (nI L) :: st) u) : SimL L xs cl sl pc ls (.ref 130 :: st) u := by
  refine ⟨?_, trivial⟩
  intro p l e s m args below meth c ad dC dI cI cJ cZ A r arr H locs hA hr hl hP hS
  by_cases hF : FX L xs s args ad A
  · exact va_slen hA.1 hA.2.1 hF.2.1 hF.2.2.1 (fun h => absurd (hF.2.2.2 _ h) (by have := hF.2.2.1; omega)) hS hd (k.1 hA hr hl hP hS)
  · exact fun T hT X => ⟨_, Steps.refl _, fun h => absurd h hF⟩
theorem q_end (hc : cl ≤ 601024) (hs : sl ≤ 7293034) (hd : decode code pc = .ok (.ireturn, 1)) : SimL L xs cl sl pc ls [.int 1] u := by
  refine ⟨?_, trivial⟩
  intro p l e s m args below meth c ad dC dI cI cJ cZ A r arr H locs hA hr hl hP hS
  by_cases hF : FX L xs s args ad A
  · refine W.widen hc hs (va_forget (fun q hq => hF.2.2.2 _ (hS.2.2 q hq)) ?_)
    intro T hT X
    obtain ⟨t, a, b⟩ := (by rw [hF.1]; exact lw_ret hA.1 hA.2.1 hA.2.2.2.1 hA.2.2.2.2.2.2.1 hd : W p l e room_1 s m args below meth c H [] 601024 7293034 (lw_Z below args s) (F0 m pc arr [.int 1])) T hT X
    exact ⟨t, a, fun _ => b⟩
  · exact fun T hT X => ⟨_, Steps.refl _, fun h => absurd h hF⟩
end SL
section SL2
variable {ρ : Type} {Z : QT ρ} {kx : Nat} {R : Room} {cl sl : Nat} {M : MI} {pc : Nat} {ex : Option ρ} {ls : LL} {st : List Value} {u : US}
theorem b_icmp_gt {x y : Int32} {off : Int} {tgt : Nat} (hd : decode M.2.1 pc = .ok (.if_icmp .gt off, 3)) (ht : (pc : Int) + off = (tgt : Int)) (kt : y < x → SimG Z kx R cl sl M ex tgt ls st u) (kf : ¬ y < x → SimG Z kx R cl sl M ex (pc + 3) ls st u) : SimG Z kx R cl sl M ex pc ls (.int y :: .int x :: st) u := by
  refine ⟨?_, trivial⟩
  intro p l e s m args below meth c ad dC dI cI cJ cZ A r arr H locs hA hr hl hP hS
  exact lv_icmp_gt hA.1 hA.2.1 hd ht (fun h => (kt h).1 hA hr hl hP hS) (fun h => (kf h).1 hA hr hl hP hS)
theorem b_icmp_eq {x y : Int32} {off : Int} {tgt : Nat} (hd : decode M.2.1 pc = .ok (.if_icmp .eq off, 3)) (ht : (pc : Int) + off = (tgt : Int)) (h : x = y) (k : SimG Z kx R cl sl M ex tgt ls st u) : SimG Z kx R cl sl M ex pc ls (.int y :: .int x :: st) u := by
  refine ⟨?_, trivial⟩
  intro p l e s m args below meth c ad dC dI cI cJ cZ A r arr H locs hA hr hl hP hS
  exact lv_icmp_eq hA.1 hA.2.1 hd ht (fun _ => k.1 hA hr hl hP hS) (fun h9 => absurd h h9)
theorem b_if_eq {x : Int32} {off : Int} {tgt : Nat} (hd : decode M.2.1 pc = .ok (.ifCond .eq off, 3)) (ht : (pc : Int) + off = (tgt : Int)) (h : x = 0) (k : SimG Z kx R cl sl M ex tgt ls st u) : SimG Z kx R cl sl M ex pc ls (.int x :: st) u := by
  refine ⟨?_, trivial⟩
  intro p l e s m args below meth c ad dC dI cI cJ cZ A r arr H locs hA hr hl hP hS
  exact lv_if_eq hA.1 hA.2.1 hd ht (fun _ => k.1 hA hr hl hP hS) (fun h9 => absurd h h9)
theorem b_if_ne {x : Int32} {off : Int} {tgt : Nat} (hd : decode M.2.1 pc = .ok (.ifCond .ne off, 3)) (ht : (pc : Int) + off = (tgt : Int)) (kt : ¬ x = 0 → SimG Z kx R cl sl M ex tgt ls st u) (kf : x = 0 → SimG Z kx R cl sl M ex (pc + 3) ls st u) : SimG Z kx R cl sl M ex pc ls (.int x :: st) u := by
  refine ⟨?_, trivial⟩
  intro p l e s m args below meth c ad dC dI cI cJ cZ A r arr H locs hA hr hl hP hS
  exact lv_if_ne hA.1 hA.2.1 hd ht (fun h => (kt h).1 hA hr hl hP hS) (fun h => (kf h).1 hA hr hl hP hS)
theorem b_lald (i : Nat) {x : Int32} (hi : okA i 21 = true) (hb : inb x (ln i) = true) (hd : decode M.2.1 pc = .ok (.laload, 1)) (kk : SimG Z kx R cl sl M ex (pc + 1) ls (.long (gJ u i x) :: st) u) : SimG Z kx R cl sl M ex pc ls (.int x :: .ref i :: st) u := by
  have := r_lald (Z := Z) (kx := kx) (R := R) (cl := cl) (sl := sl) (M := M) (pc := pc) (ex := ex) (ls := ls) (st := st) (u := u) i (x := x) hi hd kk
  rw [hb] at this
  exact this
theorem aftG {p : Program} {l : Launch} {e : Env} {s : State} {m : MethodId} {args : Array Value} {below : List Frame} {meth : Method} {c : Code} {H : Heap} {locs : List Loc} {mc ms : Nat} {Q : State → Prop} {arr : Array Slot} {rest st0 : List Value} {a : Array Value} {A0 A1 : Nat → Prop} {free : Addr → Prop} {ad : Nat → Nat} {dC : Nat → ClassId} {dI : Nat → Nat → Nat} {cI cJ cZ : ClassId} {res : Option Value × US}
    (hr : va_Run p l e R s m args below meth c H locs cl sl mc ms (F0 m pc arr st0) rest (QA ad dC dI cI cJ cZ A1 res a) free) (hS : va_S A0 s.heap H locs) (hA : ∀ q, q < H.size → A1 q → A0 q) (hf : ∀ q, free q → A0 q)
    (kk : ∀ (H1 : Heap) (locs1 : List Loc), va_P (dC, dI) vwCl (wld ad cI cJ cZ res.2) H1 → va_S A0 s.heap H1 locs1 → W p l e R s m args below meth c H1 locs1 (cl + mc) (sl + ms) Q (F0 m (pc + 3) arr (res.1.toList ++ rest))) : W p l e R s m args below meth c H locs cl sl Q (F0 m pc arr st0) := by
  intro T hT X
  obtain ⟨v, st₀, t, T', L, h0, X', hL, e1, e2, ⟨⟨hv, hb⟩, hz, hk⟩, stp⟩ := hr T hT X
  cases hv
  rw [h0] at hz hk
  obtain ⟨t2, a1, b1⟩ := kk T'.heap (locs ++ L) (by rw [e1]; exact hb)
    ⟨Nat.le_trans hS.1 (by rw [e1]; exact hz), fun q h1 h2 => by rw [e1, hk q (Nat.lt_of_lt_of_le h1 hS.1) (fun z => h2 (hA q (Nat.lt_of_lt_of_le h1 hS.1) z))]; exact hS.2.1 q h1 h2, fun q hq => by
      rcases List.mem_append.mp hq with h | h
      · exact hS.2.2 q h
      · exact hf _ (hL q h)⟩ T' rfl X'
  exact ⟨t2, stp t2 a1, b1⟩
/-- a call whose answer is known -/
theorem g_callV {Mc : MI} {dc n ci idx i : Nat} {As : List Value} {res : Option Value × US} (kv : KV M.1.cls idx Mc n ci) (hi : okO i ci = true) (hR : dc + 1 ≤ R.frames ∧ 64 + 64 * dc ≤ R.locals) (hcs : cl ≤ R.cells ∧ sl ≤ R.slots) (hn : As.length = n) (hm : MetC Mc dc (.ref i :: As) u res) (hs : (st.map fun v => v.category).sum ≤ 8) (hd : decode M.2.1 pc = .ok (.invokevirtual idx, 3)) {st0 : List Value} (hst : st0 = As.reverse ++ .ref i :: st)
    (hav : ∀ ad : Nat → Nat, res.1.map (av ad) = res.1) (kk : SimG Z kx R cl sl M ex (pc + 3) ls (res.1.toList ++ st) res.2) : SimG Z kx R cl sl M ex pc ls st0 u := by
  refine ⟨?_, trivial⟩
  intro p l e s m args below meth c ad dC dI cI cJ cZ A r arr H locs hA hr hl hP hS
  subst hst
  obtain ⟨⟨c1, c2, c3, c4, c5, c6⟩, k1, k2, k3, T, k4⟩ := kv
  obtain ⟨h1, h2, h3⟩ := okO_s hi
  have he := wld_at (ad := ad) (cI := cI) (cJ := cJ) (cZ := cZ) (u := u) h1
  rw [cell_obj h2 h3] at he
  have hD := hA.2.2.2.2.2.2.2.2.1 u
  have hf := frA hD hA.2.2.2.2.2.2.2.2.2.1 hS
  refine aftG (mc := 0) (ms := 0) (A1 := va_A (wld ad cI cJ cZ u) H.size) (rest := st.map (av ad)) (res := res) (va_runV (As := As.map (av ad)) (b := ad i) (Ts := wsM M) (own := M.1.cls) (C := Mc.1.cls) ⟨hA.1, hA.2.1, hA.2.2.1, hA.2.2.2.2.1, hA.2.2.2.2.2.1⟩ (hm l hA.2.2.2.2.2.2.2.2.2.2.2.2.1 ad dC dI cI cJ cZ H.size) ⟨callB_of n hA.2.2.2.2.2.1 (wsM_good c1) rfl rfl rfl (hA.tb c2) (hA.tb k1) ⟨c3, c4, c5⟩ ⟨hR.1, show 8 + (Mc.2.2.1 + 11) + 64 * dc ≤ R.locals by have := hR.2; omega⟩, hA.tb k2, hA.tb k3⟩ ⟨PA_blind, va_recv hA.2.2.2.2.2.2.2.1 hP k4 he, fun U hU hW => ⟨rfl, by rw [hU], by rw [hU]; exact hP, va_K.moved hW.alike hA.2.2.2.2.2.2.2.1, hD.weaken (fun _ _ _ _ => trivial), NW.warm hW hA.2.2.2.2.2.2.2.2.2.2.1, by rw [hU]; exact hA.2.2.2.2.2.2.2.2.2.2.2.1.go hS.2.1 hW hf⟩⟩ rfl (by simpa using hn) hl.1 (by simp [av]) (lv_room (by rw [ctg_sum]; exact hs)) hd hcs) hS (fun q _ h => hf q h) hf (fun H1 locs1 hP1 hS1 => ?_)
  have := kk.1 hA hr hl hP1 hS1 (p := p) (l := l) (e := e) (below := below)
  rw [List.map_append] at this
  have e2 : res.1.toList.map (av ad) = res.1.toList := by
    have := hav ad
    cases hq : res.1 with
    | none => rfl
    | some w => rw [hq] at this; simp only [Option.map_some, Option.some.injEq] at this; simp [this]
  rw [e2] at this
  exact this
/-- a wrapper's call -/
theorem g_callW {y : MethodName} {bytes : ByteArray} {maxL : Nat} {hh : List (Nat × Nat × Nat × Nat)} {dc n idx : Nat} {As : List Value} {res : Int32 × US} (w1 : Cond.codeWith y bytes maxL (some .int) hh ∈ TB) (w2 : Cond.methodLink M.1.cls idx y ∈ TB) (w3 : Cond.static y ∈ TB) (w4 : Cond.initialized y.cls ∈ TB) (w5 : y.cls ≠ "java/lang/invoke/MethodHandle" ∧ y.cls ≠ "java/lang/invoke/VarHandle" ∧ (parseMethodDescriptor y.desc).map (fun d => d.parameters.length) = some n) (hmx : maxL ≤ 45) (hR : dc + 1 ≤ R.frames ∧ 64 + 64 * dc ≤ R.locals) (hcs : cl + 1 ≤ R.cells ∧ sl + 6 ≤ R.slots) (hn : As.length = n) (hm : MetW y bytes maxL hh dc As u res) (hs : (st.map fun v => v.category).sum ≤ 8) (hd : decode M.2.1 pc = .ok (.invokestatic idx, 3)) {st0 : List Value} (hst : st0 = As.reverse ++ st)
    (kk : SimG Z kx R (cl + 1) (sl + 6) M ex (pc + 3) ls (.int res.1 :: st) res.2) : SimG Z kx R cl sl M ex pc ls st0 u := by
  refine ⟨?_, trivial⟩
  intro p l e s m args below meth c ad dC dI cI cJ cZ A r arr H locs hA hr hl hP hS
  subst hst
  have hD := hA.2.2.2.2.2.2.2.2.1 u
  have hf := frA hD hA.2.2.2.2.2.2.2.2.2.1 hS
  have hG : GoodIn (wsM M) (.codeWith y bytes maxL (some .int) hh :: TB) := by
    intro w hw
    have h : w ∈ TB := by
      rcases List.mem_cons.mp hw with rfl | h
      · exact w1
      · exact h
    exact ⟨List.mem_cons_of_mem _ h, good_of_word (List.mem_filter.mp h).2⟩
  refine aftG (mc := 1) (ms := 6) (A1 := va_A (wld ad cI cJ cZ u) H.size) (rest := st.map (av ad)) (res := tI res) (vx_runSW (As := As.map (av ad)) (Ts := wsM M) (own := M.1.cls) (hh := hh) ⟨hA.1, hA.2.1, hA.2.2.1, hA.2.2.2.2.1, hA.2.2.2.2.2.1⟩ (hm l hA.2.2.2.2.2.2.2.2.2.2.2.2.1 ad dC dI cI cJ cZ H.size) ⟨⟨rfl, rfl, hR.1, show 8 + (maxL + 11) + 64 * dc ≤ R.locals by have := hR.2; omega, pay_in hA.2.2.2.2.2.1 hG, List.mem_cons_self⟩, hA.tb w1, hA.tb w4, ⟨w5.1, w5.2.1⟩, fun sig h => by have h2 := w5.2.2; rw [h] at h2; exact (Option.some.inj h2).symm, hA.tb w2, hA.tb w3⟩ ⟨PA_blind, fun U hU hW => ⟨rfl, by rw [hU], by rw [hU]; exact hP, va_K.moved hW.alike hA.2.2.2.2.2.2.2.1, hD.weaken (fun _ _ _ _ => trivial), NW.warm hW hA.2.2.2.2.2.2.2.2.2.2.1, by rw [hU]; exact hA.2.2.2.2.2.2.2.2.2.2.2.1.go hS.2.1 hW hf⟩⟩ rfl (by simpa using hn) hl.1 (by simp) (lv_room (by rw [ctg_sum]; exact hs)) hd hcs) hS (fun q _ h => hf q h) hf (fun H1 locs1 hP1 hS1 => ?_)
  exact kk.1 hA hr hl hP1 hS1
end SL2
