/-! the law's four wrappers: an answer, or 1 where the method threw -/
theorem aftX {α : Type} {f : α → Value} {r : Option α × US} {pc : Nat} {p : Program} {l : Launch} {e : Env} {R : Room} {s : State} {m : MethodId} {args : Array Value} {below : List Frame} {meth : Method} {c : Code} {H : Heap} {locs : List Loc} {cells slots : Nat} {Q : State → Prop} {arr : Array Slot} {rest st0 : List Value} {a : Array Value} {A0 A1 : Nat → Prop} {free : Addr → Prop} {ad : Nat → Nat} {dC : Nat → ClassId} {dI : Nat → Nat → Nat} {cI cJ cZ : ClassId}
    (hr : vx_Run p l e R s m args below meth c H locs cells slots 1 6 (F0 m pc arr st0) rest (QXf f r ad dC dI cI cJ cZ A1 a) (XXf r ad dC dI cI cJ cZ A1) free) (hS : va_S A0 s.heap H locs) (hA : ∀ q, q < H.size → A1 q → A0 q) (hf : ∀ q, free q → A0 q)
    (kk : ∀ v, r.1 = some v → ∀ (H1 : Heap) (locs1 : List Loc), va_P (dC, dI) vwCl (wld ad cI cJ cZ r.2) H1 → va_S A0 s.heap H1 locs1 → W p l e R s m args below meth c H1 locs1 (cells + 1) (slots + 6) Q (F0 m (pc + 3) arr (f v :: rest)))
    (kx : r.1 = none → ∀ (H1 : Heap) (locs1 : List Loc) (q : Addr) (ce : Cell), va_P (dC, dI) vwCl (wld ad cI cJ cZ r.2) H1 → va_S A0 s.heap H1 locs1 → H1[q]? = some ce → ce.vm = .none → s.vm.findClass NSE = some ce.cls → vx_W p l e R s m args below meth c H1 locs1 (cells + 1) (slots + 6) Q (F0 m pc arr rest) q) : W p l e R s m args below meth c H locs cells slots Q (F0 m pc arr st0) := by
  intro T hT X
  have key : ∀ (t T' : State) (st₀ : State) (L : List Loc), st₀.heap = H → T'.heap = t.heap → va_F A1 st₀ t → (∀ q ∈ L, free q.base) → va_S A0 s.heap T'.heap (locs ++ L) := by
    intro t T' st₀ L h0 e1 hF hL
    obtain ⟨hz, hk⟩ := hF
    rw [h0] at hz hk
    exact ⟨Nat.le_trans hS.1 (by rw [e1]; exact hz), fun q h1 h2 => by rw [e1, hk q (Nat.lt_of_lt_of_le h1 hS.1) (fun z => h2 (hA q (Nat.lt_of_lt_of_le h1 hS.1) z))]; exact hS.2.1 q h1 h2, fun q hq => by
      rcases List.mem_append.mp hq with h | h
      · exact hS.2.2 q h
      · exact hf _ (hL q h)⟩
  rcases hr T hT X with ⟨v, st₀, t, T', L, h0, X', hL, e1, e2, ⟨v0, hv0, ⟨hv, hb⟩, hF⟩, stp⟩ | ⟨q, st₀, t, T', L, E, ce, h0, X', hL, e1, e2, ⟨hn, hE, hb, hF⟩, hce, hcv, hcl, stp⟩
  · cases hv
    obtain ⟨t2, a1, b1⟩ := kk v0 hv0 T'.heap (locs ++ L) (by rw [e1]; exact hb) (key t T' st₀ L h0 e1 hF hL) T' rfl X'
    exact ⟨t2, stp t2 a1, b1⟩
  · subst hE
    obtain ⟨t2, a1, b1⟩ := kx hn T'.heap (locs ++ L) q ce (by rw [e1]; exact hb) (key t T' st₀ L h0 e1 hF hL) (by rw [e1]; exact hce) hcv hcl T' rfl X'
    exact ⟨t2, stp.trans a1, b1⟩
def wLi (r : Option Int32 × US) : Int32 × US := match r.1 with
  | some v => (0, sJ r.2 85 0 v.toInt64)
  | none => (1, r.2)
def wLl (r : Option Int64 × US) : Int32 × US := match r.1 with
  | some v => (0, sJ r.2 85 0 v)
  | none => (1, r.2)
def MetW (y : MethodName) (cc : ByteArray) (maxL : Nat) (hh : List (Nat × Nat × Nat × Nat)) (d : Nat) (avs : List Value) (u : US) (res : Int32 × US) : Prop :=
  ∀ (l : Launch), l.stackTraces = false → ∀ (ad : Nat → Nat) (dC : Nat → ClassId) (dI : Nat → Nat → Nat) (cI cJ cZ : ClassId) (sz : Nat),
    Met l y (.codeWith y cc maxL (some .int) hh :: TB) (rmK 1 d) (va_Pc (avs.map (av ad)) (PA ad dC dI cI cJ cZ sz u)) (QA ad dC dI cI cJ cZ (va_A (wld ad cI cJ cZ u) sz) (tI res)) 1 6 (va_A (wld ad cI cJ cZ u) sz)
theorem kxL : Cond.classLink RL 13 NSE ∈ TB := by decide +kernel
theorem kxE : Cond.castable NSE NSE ∈ XB := by decide +kernel
set_option maxRecDepth 20000 in
theorem okL_thing (v1 v2 : Int32) (u : US) (r : Option Int32 × US) (h : fX11_thing v1 v2 u = some r) : MetW yL_thing cL_thing 5 [(0, 10, 13, 13)] 10 [.ref 0, .int v1, .int v2, .ref 85] u (wLi r) := by
  intro l hlt ad dC dI cI cJ cZ sz
  refine va_MetW (cc := cL_thing) (maxL := 5) (ret := some .int) (hh := [(0, 10, 13, 13)]) (by decide +kernel) rfl ?_
  intro p e s m args below meth c s₁ B hml hv
  obtain ⟨rfl, hsz, hP, hK, hD0, hN, hX⟩ := hv
  subst hsz
  have hx := B.exec
  have hb := B.bytes
  have hts0 := atoms_spec (ws := Cond.codeWith yL_thing cL_thing 5 (some .int) [(0, 10, 13, 13)] :: TB) B.pre
  have hts : ∀ w ∈ TB, w.before _ s = true := fun w hw => hts0 w (List.mem_cons_of_mem _ hw)
  have htb := vx_table (x := yL_thing) B (hts0 _ List.mem_cons_self)
  have hown : s.vm.findClass RL = some m.cls := findClass_of_methodNamed B.named
  have hlocks := B.notSynchronized
  have hr0 := B.returns
  have hD := hD0.self (sz := s.heap.size)
  have hAq : ∀ q : Nat, s.heap.size ≤ q → va_A (wld ad cI cJ cZ u) s.heap.size q := fun q hq => Or.inr hq
  rw [lg_entry_eq]
  have hl0 := lv_entry (List.map (av ad) [.ref 0, .int v1, .int v2, .ref 85]) (n := 5) (Nat.le_of_ble_eq_true rfl)
  generalize (lg_sl (List.map (av ad) [.ref 0, .int v1, .int v2, .ref 85]) ++ List.replicate (5 - (lg_sl (List.map (av ad) [.ref 0, .int v1, .int v2, .ref 85])).length) Slot.unset).toArray = arr at hl0 ⊢
  have hl : Rl ad 5 [some (.ref 0), some (.int v1), some (.int v2), some (.ref 85), none] arr := ⟨hl0.1, hl0.2.1, fun i v hi => hl0.2.2 (i, av ad v) (by have := entL_args (ad := ad) [.ref 0, .int v1, .int v2, .ref 85] 0 i v (pad_in (n := 5) hi); simpa using this)⟩
  have hf := frA (s := s) (locs := []) hD hAq va_S.rf
  have he := wld_at (ad := ad) (cI := cI) (cJ := cJ) (cZ := cZ) (u := u) (i := 0) (by decide)
  rw [cell_obj (ci := 11) rfl (by decide)] at he
  refine lv_aload_n hx hb dL_thing_0 rfl (hl.2.2 3 _ rfl) ?_
  refine lv_iconst (v := 0) hx hb dL_thing_1 rfl ?_
  refine lv_aload_n hx hb dL_thing_2 rfl (hl.2.2 0 _ rfl) ?_
  refine lv_iload_n hx hb dL_thing_3 rfl (hl.2.2 1 _ rfl) ?_
  refine lv_iload_n hx hb dL_thing_4 rfl (hl.2.2 2 _ rfl) ?_
  refine aftX (r := r) (A1 := va_A (wld ad cI cJ cZ u) s.heap.size) (rest := [.int 0, .ref (ad 85)]) (vx_runV (As := [.int v1, .int v2]) (b := ad 0) (Ts := TB) (own := RL) (C := RX11) ⟨hx, hb, hml, hown, hts⟩ (okX11_thing v1 v2 u r h l hlt ad dC dI cI cJ cZ s.heap.size) ⟨callB_of 2 hts (fun w hw => (show w ∈ TB ∧ _ from by
      have h9 : w ∈ TB := by
        rcases List.mem_cons.mp hw with rfl | h8
        · exact kcX11_thing
        · exact h8
      exact ⟨h9, good_of_word (List.mem_filter.mp h9).2⟩)) rfl rfl rfl (hts _ knX11) (hts _ kmL_7) ⟨by decide, by decide, by decide +kernel⟩ ⟨by decide, by decide⟩, hts _ kiX11_thing, hts _ ksX11_thing⟩ ⟨PA_blind, va_recv hK hP (q := (RX11, TX11, 14)) rfl he, fun U hU hW => ⟨rfl, by rw [hU], by rw [hU]; exact hP, va_K.moved hW.alike hK, hD.weaken (fun _ _ _ _ => trivial), NW.warm hW hN, by rw [hU]; exact hX.go (fun _ _ _ => rfl) hW (fun _ h => h)⟩⟩ rfl rfl hl.1 rfl (lv_room (Nat.le_of_ble_eq_true rfl)) dL_thing_5 ⟨Nat.le_refl 1, Nat.le_refl 6⟩) va_S.rf (fun q _ h => h) (fun q h => h) (fun v hv H1 locs1 hP1 hS1 => ?_) (fun hn H1 locs1 q ce hP1 hS1 hce hcv hcl => ?_)
  · have hw : wLi r = (0, sJ r.2 85 0 v.toInt64) := by unfold wLi; rw [hv]
    rw [hw]
    refine lv_i2l hx hb dL_thing_8 rfl ?_
    have he2 := wld_at (ad := ad) (cI := cI) (cJ := cJ) (cZ := cZ) (u := r.2) (i := 85) (by decide)
    rw [cell_long rfl] at he2
    refine va_last hx hb hK hP1 (wld_D hD r.2) hS1 85 1 he2 rfl (inb_vp (x := 0) (n := ln 85) (by decide)) dL_thing_9 (fun H2 locs2 hP2 hD2 hS2 => ?_)
    rw [wld_set (ad := ad) (cI := cI) (cJ := cJ) (cZ := cZ) (u := r.2) (u2 := sJ r.2 85 0 v.toInt64) (by rw [cell_long rfl]; simp [sJ]) (fun j hj => cell_row (u := r.2) (u2 := sJ r.2 85 0 v.toInt64) (i := 85) rfl rfl (fun k hk => rfl) (fun k hk => by simp [sJ, hk]) hj)] at hP2
    refine lv_goto hx hb dL_thing_10 (tgt := 17) rfl ?_
    refine lv_iconst (v := 0) hx hb dL_thing_17 rfl ?_
    exact W.iret (v := 0) hx hb hr0 (fun t ht hW => ⟨⟨rfl, by rw [ht]; exact hP2⟩, hS2.F ht⟩) hS2.2.2 dL_thing_18 hlocks
  · have hw : wLi r = (1, r.2) := by unfold wLi; rw [hn]
    rw [hw]
    refine vx_catch (own := RL) (name := NSE) hown [] { startPc := 0, endPc := 10, handlerPc := 13, catchType := 13 } [] htb (fun z hz => by cases hz) (by decide) (by decide) (hts _ kxL) (va_Nw.use rfl (hN.1 _ kxE)) hce hcv hcl ?_
    refine lv_astore hx hb dL_thing_13 (Rl_has hl) (Nat.le_of_ble_eq_true rfl) rfl (fun arr2 h9 => ?_)
    refine lv_iconst (v := 1) hx hb dL_thing_15 rfl ?_
    exact W.iret (v := 1) hx hb hr0 (fun t ht hW => ⟨⟨rfl, by rw [ht]; exact hP1⟩, hS1.F ht⟩) hS1.2.2 dL_thing_16 hlocks
set_option maxRecDepth 20000 in
theorem okL_pane (v1 v2 : Int32) (u : US) (r : Option Int32 × US) (h : fX11_pane v1 v2 u = some r) : MetW yL_pane cL_pane 5 [(0, 10, 13, 13)] 7 [.ref 0, .int v1, .int v2, .ref 85] u (wLi r) := by
  intro l hlt ad dC dI cI cJ cZ sz
  refine va_MetW (cc := cL_pane) (maxL := 5) (ret := some .int) (hh := [(0, 10, 13, 13)]) (by decide +kernel) rfl ?_
  intro p e s m args below meth c s₁ B hml hv
  obtain ⟨rfl, hsz, hP, hK, hD0, hN, hX⟩ := hv
  subst hsz
  have hx := B.exec
  have hb := B.bytes
  have hts0 := atoms_spec (ws := Cond.codeWith yL_pane cL_pane 5 (some .int) [(0, 10, 13, 13)] :: TB) B.pre
  have hts : ∀ w ∈ TB, w.before _ s = true := fun w hw => hts0 w (List.mem_cons_of_mem _ hw)
  have htb := vx_table (x := yL_pane) B (hts0 _ List.mem_cons_self)
  have hown : s.vm.findClass RL = some m.cls := findClass_of_methodNamed B.named
  have hlocks := B.notSynchronized
  have hr0 := B.returns
  have hD := hD0.self (sz := s.heap.size)
  have hAq : ∀ q : Nat, s.heap.size ≤ q → va_A (wld ad cI cJ cZ u) s.heap.size q := fun q hq => Or.inr hq
  rw [lg_entry_eq]
  have hl0 := lv_entry (List.map (av ad) [.ref 0, .int v1, .int v2, .ref 85]) (n := 5) (Nat.le_of_ble_eq_true rfl)
  generalize (lg_sl (List.map (av ad) [.ref 0, .int v1, .int v2, .ref 85]) ++ List.replicate (5 - (lg_sl (List.map (av ad) [.ref 0, .int v1, .int v2, .ref 85])).length) Slot.unset).toArray = arr at hl0 ⊢
  have hl : Rl ad 5 [some (.ref 0), some (.int v1), some (.int v2), some (.ref 85), none] arr := ⟨hl0.1, hl0.2.1, fun i v hi => hl0.2.2 (i, av ad v) (by have := entL_args (ad := ad) [.ref 0, .int v1, .int v2, .ref 85] 0 i v (pad_in (n := 5) hi); simpa using this)⟩
  have hf := frA (s := s) (locs := []) hD hAq va_S.rf
  have he := wld_at (ad := ad) (cI := cI) (cJ := cJ) (cZ := cZ) (u := u) (i := 0) (by decide)
  rw [cell_obj (ci := 11) rfl (by decide)] at he
  refine lv_aload_n hx hb dL_pane_0 rfl (hl.2.2 3 _ rfl) ?_
  refine lv_iconst (v := 0) hx hb dL_pane_1 rfl ?_
  refine lv_aload_n hx hb dL_pane_2 rfl (hl.2.2 0 _ rfl) ?_
  refine lv_iload_n hx hb dL_pane_3 rfl (hl.2.2 1 _ rfl) ?_
  refine lv_iload_n hx hb dL_pane_4 rfl (hl.2.2 2 _ rfl) ?_
  refine aftX (r := r) (A1 := va_A (wld ad cI cJ cZ u) s.heap.size) (rest := [.int 0, .ref (ad 85)]) (vx_runV (As := [.int v1, .int v2]) (b := ad 0) (Ts := TB) (own := RL) (C := RX11) ⟨hx, hb, hml, hown, hts⟩ (okX11_pane v1 v2 u r h l hlt ad dC dI cI cJ cZ s.heap.size) ⟨callB_of 2 hts (fun w hw => (show w ∈ TB ∧ _ from by
      have h9 : w ∈ TB := by
        rcases List.mem_cons.mp hw with rfl | h8
        · exact kcX11_pane
        · exact h8
      exact ⟨h9, good_of_word (List.mem_filter.mp h9).2⟩)) rfl rfl rfl (hts _ knX11) (hts _ kmL_15) ⟨by decide, by decide, by decide +kernel⟩ ⟨by decide, by decide⟩, hts _ kiX11_pane, hts _ ksX11_pane⟩ ⟨PA_blind, va_recv hK hP (q := (RX11, TX11, 14)) rfl he, fun U hU hW => ⟨rfl, by rw [hU], by rw [hU]; exact hP, va_K.moved hW.alike hK, hD.weaken (fun _ _ _ _ => trivial), NW.warm hW hN, by rw [hU]; exact hX.go (fun _ _ _ => rfl) hW (fun _ h => h)⟩⟩ rfl rfl hl.1 rfl (lv_room (Nat.le_of_ble_eq_true rfl)) dL_pane_5 ⟨Nat.le_refl 1, Nat.le_refl 6⟩) va_S.rf (fun q _ h => h) (fun q h => h) (fun v hv H1 locs1 hP1 hS1 => ?_) (fun hn H1 locs1 q ce hP1 hS1 hce hcv hcl => ?_)
  · have hw : wLi r = (0, sJ r.2 85 0 v.toInt64) := by unfold wLi; rw [hv]
    rw [hw]
    refine lv_i2l hx hb dL_pane_8 rfl ?_
    have he2 := wld_at (ad := ad) (cI := cI) (cJ := cJ) (cZ := cZ) (u := r.2) (i := 85) (by decide)
    rw [cell_long rfl] at he2
    refine va_last hx hb hK hP1 (wld_D hD r.2) hS1 85 1 he2 rfl (inb_vp (x := 0) (n := ln 85) (by decide)) dL_pane_9 (fun H2 locs2 hP2 hD2 hS2 => ?_)
    rw [wld_set (ad := ad) (cI := cI) (cJ := cJ) (cZ := cZ) (u := r.2) (u2 := sJ r.2 85 0 v.toInt64) (by rw [cell_long rfl]; simp [sJ]) (fun j hj => cell_row (u := r.2) (u2 := sJ r.2 85 0 v.toInt64) (i := 85) rfl rfl (fun k hk => rfl) (fun k hk => by simp [sJ, hk]) hj)] at hP2
    refine lv_goto hx hb dL_pane_10 (tgt := 17) rfl ?_
    refine lv_iconst (v := 0) hx hb dL_pane_17 rfl ?_
    exact W.iret (v := 0) hx hb hr0 (fun t ht hW => ⟨⟨rfl, by rw [ht]; exact hP2⟩, hS2.F ht⟩) hS2.2.2 dL_pane_18 hlocks
  · have hw : wLi r = (1, r.2) := by unfold wLi; rw [hn]
    rw [hw]
    refine vx_catch (own := RL) (name := NSE) hown [] { startPc := 0, endPc := 10, handlerPc := 13, catchType := 13 } [] htb (fun z hz => by cases hz) (by decide) (by decide) (hts _ kxL) (va_Nw.use rfl (hN.1 _ kxE)) hce hcv hcl ?_
    refine lv_astore hx hb dL_pane_13 (Rl_has hl) (Nat.le_of_ble_eq_true rfl) rfl (fun arr2 h9 => ?_)
    refine lv_iconst (v := 1) hx hb dL_pane_15 rfl ?_
    exact W.iret (v := 1) hx hb hr0 (fun t ht hW => ⟨⟨rfl, by rw [ht]; exact hP1⟩, hS1.F ht⟩) hS1.2.2 dL_pane_16 hlocks
set_option maxRecDepth 20000 in
theorem okL_room (v1 v2 : Int32) (u : US) (r : Option Int32 × US) (h : fX11_room v1 v2 u = some r) : MetW yL_room cL_room 5 [(0, 10, 13, 13)] 10 [.ref 0, .int v1, .int v2, .ref 85] u (wLi r) := by
  intro l hlt ad dC dI cI cJ cZ sz
  refine va_MetW (cc := cL_room) (maxL := 5) (ret := some .int) (hh := [(0, 10, 13, 13)]) (by decide +kernel) rfl ?_
  intro p e s m args below meth c s₁ B hml hv
  obtain ⟨rfl, hsz, hP, hK, hD0, hN, hX⟩ := hv
  subst hsz
  have hx := B.exec
  have hb := B.bytes
  have hts0 := atoms_spec (ws := Cond.codeWith yL_room cL_room 5 (some .int) [(0, 10, 13, 13)] :: TB) B.pre
  have hts : ∀ w ∈ TB, w.before _ s = true := fun w hw => hts0 w (List.mem_cons_of_mem _ hw)
  have htb := vx_table (x := yL_room) B (hts0 _ List.mem_cons_self)
  have hown : s.vm.findClass RL = some m.cls := findClass_of_methodNamed B.named
  have hlocks := B.notSynchronized
  have hr0 := B.returns
  have hD := hD0.self (sz := s.heap.size)
  have hAq : ∀ q : Nat, s.heap.size ≤ q → va_A (wld ad cI cJ cZ u) s.heap.size q := fun q hq => Or.inr hq
  rw [lg_entry_eq]
  have hl0 := lv_entry (List.map (av ad) [.ref 0, .int v1, .int v2, .ref 85]) (n := 5) (Nat.le_of_ble_eq_true rfl)
  generalize (lg_sl (List.map (av ad) [.ref 0, .int v1, .int v2, .ref 85]) ++ List.replicate (5 - (lg_sl (List.map (av ad) [.ref 0, .int v1, .int v2, .ref 85])).length) Slot.unset).toArray = arr at hl0 ⊢
  have hl : Rl ad 5 [some (.ref 0), some (.int v1), some (.int v2), some (.ref 85), none] arr := ⟨hl0.1, hl0.2.1, fun i v hi => hl0.2.2 (i, av ad v) (by have := entL_args (ad := ad) [.ref 0, .int v1, .int v2, .ref 85] 0 i v (pad_in (n := 5) hi); simpa using this)⟩
  have hf := frA (s := s) (locs := []) hD hAq va_S.rf
  have he := wld_at (ad := ad) (cI := cI) (cJ := cJ) (cZ := cZ) (u := u) (i := 0) (by decide)
  rw [cell_obj (ci := 11) rfl (by decide)] at he
  refine lv_aload_n hx hb dL_room_0 rfl (hl.2.2 3 _ rfl) ?_
  refine lv_iconst (v := 0) hx hb dL_room_1 rfl ?_
  refine lv_aload_n hx hb dL_room_2 rfl (hl.2.2 0 _ rfl) ?_
  refine lv_iload_n hx hb dL_room_3 rfl (hl.2.2 1 _ rfl) ?_
  refine lv_iload_n hx hb dL_room_4 rfl (hl.2.2 2 _ rfl) ?_
  refine aftX (r := r) (A1 := va_A (wld ad cI cJ cZ u) s.heap.size) (rest := [.int 0, .ref (ad 85)]) (vx_runV (As := [.int v1, .int v2]) (b := ad 0) (Ts := TB) (own := RL) (C := RX11) ⟨hx, hb, hml, hown, hts⟩ (okX11_room v1 v2 u r h l hlt ad dC dI cI cJ cZ s.heap.size) ⟨callB_of 2 hts (fun w hw => (show w ∈ TB ∧ _ from by
      have h9 : w ∈ TB := by
        rcases List.mem_cons.mp hw with rfl | h8
        · exact kcX11_room
        · exact h8
      exact ⟨h9, good_of_word (List.mem_filter.mp h9).2⟩)) rfl rfl rfl (hts _ knX11) (hts _ kmL_18) ⟨by decide, by decide, by decide +kernel⟩ ⟨by decide, by decide⟩, hts _ kiX11_room, hts _ ksX11_room⟩ ⟨PA_blind, va_recv hK hP (q := (RX11, TX11, 14)) rfl he, fun U hU hW => ⟨rfl, by rw [hU], by rw [hU]; exact hP, va_K.moved hW.alike hK, hD.weaken (fun _ _ _ _ => trivial), NW.warm hW hN, by rw [hU]; exact hX.go (fun _ _ _ => rfl) hW (fun _ h => h)⟩⟩ rfl rfl hl.1 rfl (lv_room (Nat.le_of_ble_eq_true rfl)) dL_room_5 ⟨Nat.le_refl 1, Nat.le_refl 6⟩) va_S.rf (fun q _ h => h) (fun q h => h) (fun v hv H1 locs1 hP1 hS1 => ?_) (fun hn H1 locs1 q ce hP1 hS1 hce hcv hcl => ?_)
  · have hw : wLi r = (0, sJ r.2 85 0 v.toInt64) := by unfold wLi; rw [hv]
    rw [hw]
    refine lv_i2l hx hb dL_room_8 rfl ?_
    have he2 := wld_at (ad := ad) (cI := cI) (cJ := cJ) (cZ := cZ) (u := r.2) (i := 85) (by decide)
    rw [cell_long rfl] at he2
    refine va_last hx hb hK hP1 (wld_D hD r.2) hS1 85 1 he2 rfl (inb_vp (x := 0) (n := ln 85) (by decide)) dL_room_9 (fun H2 locs2 hP2 hD2 hS2 => ?_)
    rw [wld_set (ad := ad) (cI := cI) (cJ := cJ) (cZ := cZ) (u := r.2) (u2 := sJ r.2 85 0 v.toInt64) (by rw [cell_long rfl]; simp [sJ]) (fun j hj => cell_row (u := r.2) (u2 := sJ r.2 85 0 v.toInt64) (i := 85) rfl rfl (fun k hk => rfl) (fun k hk => by simp [sJ, hk]) hj)] at hP2
    refine lv_goto hx hb dL_room_10 (tgt := 17) rfl ?_
    refine lv_iconst (v := 0) hx hb dL_room_17 rfl ?_
    exact W.iret (v := 0) hx hb hr0 (fun t ht hW => ⟨⟨rfl, by rw [ht]; exact hP2⟩, hS2.F ht⟩) hS2.2.2 dL_room_18 hlocks
  · have hw : wLi r = (1, r.2) := by unfold wLi; rw [hn]
    rw [hw]
    refine vx_catch (own := RL) (name := NSE) hown [] { startPc := 0, endPc := 10, handlerPc := 13, catchType := 13 } [] htb (fun z hz => by cases hz) (by decide) (by decide) (hts _ kxL) (va_Nw.use rfl (hN.1 _ kxE)) hce hcv hcl ?_
    refine lv_astore hx hb dL_room_13 (Rl_has hl) (Nat.le_of_ble_eq_true rfl) rfl (fun arr2 h9 => ?_)
    refine lv_iconst (v := 1) hx hb dL_room_15 rfl ?_
    exact W.iret (v := 1) hx hb hr0 (fun t ht hW => ⟨⟨rfl, by rw [ht]; exact hP1⟩, hS1.F ht⟩) hS1.2.2 dL_room_16 hlocks
set_option maxRecDepth 20000 in
theorem okL_row (v1 : Int32) (u : US) (r : Option Int64 × US) (h : fX11_row v1 u = some r) : MetW yL_row cL_row 4 [(0, 8, 11, 13)] 7 [.ref 0, .int v1, .ref 85] u (wLl r) := by
  intro l hlt ad dC dI cI cJ cZ sz
  refine va_MetW (cc := cL_row) (maxL := 4) (ret := some .int) (hh := [(0, 8, 11, 13)]) (by decide +kernel) rfl ?_
  intro p e s m args below meth c s₁ B hml hv
  obtain ⟨rfl, hsz, hP, hK, hD0, hN, hX⟩ := hv
  subst hsz
  have hx := B.exec
  have hb := B.bytes
  have hts0 := atoms_spec (ws := Cond.codeWith yL_row cL_row 4 (some .int) [(0, 8, 11, 13)] :: TB) B.pre
  have hts : ∀ w ∈ TB, w.before _ s = true := fun w hw => hts0 w (List.mem_cons_of_mem _ hw)
  have htb := vx_table (x := yL_row) B (hts0 _ List.mem_cons_self)
  have hown : s.vm.findClass RL = some m.cls := findClass_of_methodNamed B.named
  have hlocks := B.notSynchronized
  have hr0 := B.returns
  have hD := hD0.self (sz := s.heap.size)
  have hAq : ∀ q : Nat, s.heap.size ≤ q → va_A (wld ad cI cJ cZ u) s.heap.size q := fun q hq => Or.inr hq
  rw [lg_entry_eq]
  have hl0 := lv_entry (List.map (av ad) [.ref 0, .int v1, .ref 85]) (n := 4) (Nat.le_of_ble_eq_true rfl)
  generalize (lg_sl (List.map (av ad) [.ref 0, .int v1, .ref 85]) ++ List.replicate (4 - (lg_sl (List.map (av ad) [.ref 0, .int v1, .ref 85])).length) Slot.unset).toArray = arr at hl0 ⊢
  have hl : Rl ad 4 [some (.ref 0), some (.int v1), some (.ref 85), none] arr := ⟨hl0.1, hl0.2.1, fun i v hi => hl0.2.2 (i, av ad v) (by have := entL_args (ad := ad) [.ref 0, .int v1, .ref 85] 0 i v (pad_in (n := 4) hi); simpa using this)⟩
  have hf := frA (s := s) (locs := []) hD hAq va_S.rf
  have he := wld_at (ad := ad) (cI := cI) (cJ := cJ) (cZ := cZ) (u := u) (i := 0) (by decide)
  rw [cell_obj (ci := 11) rfl (by decide)] at he
  refine lv_aload_n hx hb dL_row_0 rfl (hl.2.2 2 _ rfl) ?_
  refine lv_iconst (v := 0) hx hb dL_row_1 rfl ?_
  refine lv_aload_n hx hb dL_row_2 rfl (hl.2.2 0 _ rfl) ?_
  refine lv_iload_n hx hb dL_row_3 rfl (hl.2.2 1 _ rfl) ?_
  refine aftX (r := r) (A1 := va_A (wld ad cI cJ cZ u) s.heap.size) (rest := [.int 0, .ref (ad 85)]) (vx_runV (As := [.int v1]) (b := ad 0) (Ts := TB) (own := RL) (C := RX11) ⟨hx, hb, hml, hown, hts⟩ (okX11_row v1 u r h l hlt ad dC dI cI cJ cZ s.heap.size) ⟨callB_of 1 hts (fun w hw => (show w ∈ TB ∧ _ from by
      have h9 : w ∈ TB := by
        rcases List.mem_cons.mp hw with rfl | h8
        · exact kcX11_row
        · exact h8
      exact ⟨h9, good_of_word (List.mem_filter.mp h9).2⟩)) rfl rfl rfl (hts _ knX11) (hts _ kmL_21) ⟨by decide, by decide, by decide +kernel⟩ ⟨by decide, by decide⟩, hts _ kiX11_row, hts _ ksX11_row⟩ ⟨PA_blind, va_recv hK hP (q := (RX11, TX11, 14)) rfl he, fun U hU hW => ⟨rfl, by rw [hU], by rw [hU]; exact hP, va_K.moved hW.alike hK, hD.weaken (fun _ _ _ _ => trivial), NW.warm hW hN, by rw [hU]; exact hX.go (fun _ _ _ => rfl) hW (fun _ h => h)⟩⟩ rfl rfl hl.1 rfl (lv_room (Nat.le_of_ble_eq_true rfl)) dL_row_4 ⟨Nat.le_refl 1, Nat.le_refl 6⟩) va_S.rf (fun q _ h => h) (fun q h => h) (fun v hv H1 locs1 hP1 hS1 => ?_) (fun hn H1 locs1 q ce hP1 hS1 hce hcv hcl => ?_)
  · have hw : wLl r = (0, sJ r.2 85 0 v) := by unfold wLl; rw [hv]
    rw [hw]
    have he2 := wld_at (ad := ad) (cI := cI) (cJ := cJ) (cZ := cZ) (u := r.2) (i := 85) (by decide)
    rw [cell_long rfl] at he2
    refine va_last hx hb hK hP1 (wld_D hD r.2) hS1 85 1 he2 rfl (inb_vp (x := 0) (n := ln 85) (by decide)) dL_row_7 (fun H2 locs2 hP2 hD2 hS2 => ?_)
    rw [wld_set (ad := ad) (cI := cI) (cJ := cJ) (cZ := cZ) (u := r.2) (u2 := sJ r.2 85 0 v) (by rw [cell_long rfl]; simp [sJ]) (fun j hj => cell_row (u := r.2) (u2 := sJ r.2 85 0 v) (i := 85) rfl rfl (fun k hk => rfl) (fun k hk => by simp [sJ, hk]) hj)] at hP2
    refine lv_goto hx hb dL_row_8 (tgt := 14) rfl ?_
    refine lv_iconst (v := 0) hx hb dL_row_14 rfl ?_
    exact W.iret (v := 0) hx hb hr0 (fun t ht hW => ⟨⟨rfl, by rw [ht]; exact hP2⟩, hS2.F ht⟩) hS2.2.2 dL_row_15 hlocks
  · have hw : wLl r = (1, r.2) := by unfold wLl; rw [hn]
    rw [hw]
    refine vx_catch (own := RL) (name := NSE) hown [] { startPc := 0, endPc := 8, handlerPc := 11, catchType := 13 } [] htb (fun z hz => by cases hz) (by decide) (by decide) (hts _ kxL) (va_Nw.use rfl (hN.1 _ kxE)) hce hcv hcl ?_
    refine lv_astore_n hx hb dL_row_11 rfl (Rl_has hl) (Nat.le_of_ble_eq_true rfl) rfl (fun arr2 h9 => ?_)
    refine lv_iconst (v := 1) hx hb dL_row_12 rfl ?_
    exact W.iret (v := 1) hx hb hr0 (fun t ht hW => ⟨⟨rfl, by rw [ht]; exact hP1⟩, hS1.F ht⟩) hS1.2.2 dL_row_13 hlocks
