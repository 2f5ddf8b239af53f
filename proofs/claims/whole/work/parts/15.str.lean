/-! texts -/
section ST
variable {ρ : Type} {Z : QT ρ} {kx : Nat} {M : MI} {d pc : Nat} {ex : Option ρ} {ls : LL} {st : List Value} {u : US}
theorem Amb.sx {kx : Nat} {l : Launch} {M : MI} {p : Program} {s : State} {m : MethodId} {args : Array Value} {meth : Method} {c : Code} {ad : Nat → Nat} {dC : Nat → ClassId} {dI : Nat → Nat → Nat} {cI cJ cZ : ClassId} {A : Nat → Prop} (h : Amb kx l M p s m args meth c ad dC dI cI cJ cZ A) : SX ad A s s.heap := h.2.2.2.2.2.2.2.2.2.2.2.1
theorem r_ldcS (j : Nat) {idx : Nat} (hj : decide (j < 7) = true) (hi : idxS.getD j 0 = idx) (hM : M.1.cls = RX12) (hd : decode M.2.1 pc = .ok (.ldc idx, 2)) (k : SimQ Z kx M d ex (pc + 2) ls (.ref (100 + j) :: st) u) : SimQ Z kx M d ex pc ls st u := by
  refine ⟨?_, trivial⟩
  intro p l e s m args below meth c ad dC dI cI cJ cZ A r arr H locs hA hr hl hP hS
  have hZ := hA.sx.2.1 j (of_decide_eq_true hj)
  rw [hi] at hZ
  have ho := hA.2.2.2.2.1
  rw [hM] at ho
  exact va_ldcS hA.1 hA.2.1 ho hZ hd (k.1 hA hr hl hP hS)
theorem r_ldcSw (j : Nat) {idx : Nat} (hj : decide (j < 7) = true) (hi : idxS.getD j 0 = idx) (hM : M.1.cls = RX12) (hd : decode M.2.1 pc = .ok (.ldc_w idx, 3)) (k : SimQ Z kx M d ex (pc + 3) ls (.ref (100 + j) :: st) u) : SimQ Z kx M d ex pc ls st u := by
  refine ⟨?_, trivial⟩
  intro p l e s m args below meth c ad dC dI cI cJ cZ A r arr H locs hA hr hl hP hS
  have hZ := hA.sx.2.1 j (of_decide_eq_true hj)
  rw [hi] at hZ
  have ho := hA.2.2.2.2.1
  rw [hM] at ho
  intro T hT X
  obtain ⟨t, a1, b1⟩ := k.1 hA hr hl hP hS T hT X
  exact ⟨t, X.ldcStringW hA.1 ho (text := txS.getD j "") (a := ad (100 + j)) hZ.1 hZ.2 (g := F0 m pc arr (st.map (av ad))) rfl (by rw [hA.2.1]; exact hd) t a1, b1⟩
def isByt (m : Nat) : Bool := decide (110 ≤ m) && decide (m < 117)
theorem isStr_s {m : Nat} (h : isStr m = true) : ∃ j, j < 7 ∧ m = 100 + j := by
  unfold isStr at h
  simp only [Bool.and_eq_true, decide_eq_true_eq] at h
  exact ⟨m - 100, by omega, by omega⟩
theorem isByt_s {m : Nat} (h : isByt m = true) : ∃ j, j < 7 ∧ m = 110 + j := by
  unfold isByt at h
  simp only [Bool.and_eq_true, decide_eq_true_eq] at h
  exact ⟨m - 110, by omega, by omega⟩
theorem r_sval (s : Nat) {idx : Nat} (hs : isStr s = true) (hlk : Cond.fieldLink M.1.cls idx "java/lang/String" "value" "[B" ∈ TB) (hd : decode M.2.1 pc = .ok (.getfield idx, 3)) (k : SimQ Z kx M d ex (pc + 3) ls (.ref (s + 10) :: st) u) : SimQ Z kx M d ex pc ls (.ref s :: st) u := by
  refine ⟨?_, trivial⟩
  intro p l e s0 m args below meth c ad dC dI cI cJ cZ A r arr H locs hA hr hl hP hS
  obtain ⟨j, hj, rfl⟩ := isStr_s hs
  have h9 := k.1 hA hr hl hP hS (p := p) (l := l) (e := e) (below := below)
  rw [show 100 + j + 10 = 110 + j by omega] at h9
  exact vk_getf hA.1 hA.2.1 (hA.sx.1.1 j hj).2.2.1 hS hA.2.2.2.2.1 (hA.tb hlk) (fun _ h => h) hd h9
theorem r_scod (s : Nat) {idx : Nat} (hs : isStr s = true) (hlk : Cond.fieldLink M.1.cls idx "java/lang/String" "coder" "B" ∈ TB) (hd : decode M.2.1 pc = .ok (.getfield idx, 3)) (k : SimQ Z kx M d ex (pc + 3) ls (.int 0 :: st) u) : SimQ Z kx M d ex pc ls (.ref s :: st) u := by
  refine ⟨?_, trivial⟩
  intro p l e s0 m args below meth c ad dC dI cI cJ cZ A r arr H locs hA hr hl hP hS
  obtain ⟨j, hj, rfl⟩ := isStr_s hs
  exact vk_getf hA.1 hA.2.1 (hA.sx.1.1 j hj).2.1 hS hA.2.2.2.2.1 (hA.tb hlk) (fun _ h => h) hd (k.1 hA hr hl hP hS)
theorem r_btl (s : Nat) (hs : isByt s = true) (hd : decode M.2.1 pc = .ok (.arraylength, 1)) (k : SimQ Z kx M d ex (pc + 1) ls (.int (nI (lenS.getD (s - 110) 0)) :: st) u) : SimQ Z kx M d ex pc ls (.ref s :: st) u := by
  refine ⟨?_, trivial⟩
  intro p l e s0 m args below meth c ad dC dI cI cJ cZ A r arr H locs hA hr hl hP hS
  obtain ⟨j, hj, rfl⟩ := isByt_s hs
  have h9 := k.1 hA hr hl hP hS (p := p) (l := l) (e := e) (below := below)
  rw [show 110 + j - 110 = j by omega] at h9
  exact va_tlen hA.1 hA.2.1 (hA.sx.1.1 j hj).2.2.2 hS rfl hd h9
theorem r_btb (s : Nat) {x : Int32} (hs : isByt s = true) (hd : decode M.2.1 pc = .ok (.baload, 1)) (k : SimQ Z kx M d ex (pc + 1) ls (.int ((bytS.getD (s - 110) []).getD x.toNatClampNeg 0) :: st) u) : SimQ Z kx M d (gd (inb x (lenS.getD (s - 110) 0)) ex) pc ls (.int x :: .ref s :: st) u := by
  refine r_gd (fun hb => ?_)
  refine ⟨?_, trivial⟩
  intro p l e s0 m args below meth c ad dC dI cI cJ cZ A r arr H locs hA hr hl hP hS
  obtain ⟨j, hj, rfl⟩ := isByt_s hs
  have h9 := k.1 hA hr hl hP hS (p := p) (l := l) (e := e) (below := below)
  rw [show 110 + j - 110 = j by omega] at h9 hb
  exact va_tb hA.1 hA.2.1 (hA.sx.1.1 j hj).2.2.2 hS (inb_vp hb) rfl hd h9
theorem r_gsC {idx : Nat} (hlk : Cond.fieldLink M.1.cls idx "java/lang/String" "COMPACT_STRINGS" "Z" ∈ TB) (hd : decode M.2.1 pc = .ok (.getstatic idx, 3)) (k : SimQ Z kx M d ex (pc + 3) ls (.int 1 :: st) u) : SimQ Z kx M d ex pc ls st u := by
  refine ⟨?_, trivial⟩
  intro p l e s0 m args below meth c ad dC dI cI cJ cZ A r arr H locs hA hr hl hP hS
  exact va_gets hA.1 hA.2.1 hA.sx.2.2.1 hS hA.2.2.2.2.1 (hA.tb hlk) (fun _ h => h) hd (k.1 hA hr hl hP hS)
theorem r_gsF {idx : Nat} (hlk : Cond.fieldLink M.1.cls idx "jdk/internal/util/Preconditions" "SIOOBE_FORMATTER" "Ljava/util/function/BiFunction;" ∈ TB) (hd : decode M.2.1 pc = .ok (.getstatic idx, 3)) (k : ∀ w : Value, (w = .null ∨ w = .ref 120) → SimQ Z kx M d ex (pc + 3) ls (w :: st) u) : SimQ Z kx M d ex pc ls st u := by
  refine ⟨?_, trivial⟩
  intro p l e s0 m args below meth c ad dC dI cI cJ cZ A r arr H locs hA hr hl hP hS
  rcases hA.sx.2.2.2.1 with h | h
  · exact va_gets hA.1 hA.2.1 h hS hA.2.2.2.2.1 (hA.tb hlk) (fun _ h => h) hd ((k .null (Or.inl rfl)).1 hA hr hl hP hS)
  · exact va_gets hA.1 hA.2.1 h hS hA.2.2.2.2.1 (hA.tb hlk) (fun _ h => h) hd ((k (.ref 120) (Or.inr rfl)).1 hA hr hl hP hS)
def ch16 (x : Int32) : Int32 := (x.toUInt32 % 65536).toInt32
theorem r_i2c {x : Int32} (hd : decode M.2.1 pc = .ok (.i2c, 1)) (k : SimQ Z kx M d ex (pc + 1) ls (.int (ch16 x) :: st) u) : SimQ Z kx M d ex pc ls (.int x :: st) u := by
  refine ⟨?_, trivial⟩
  intro p l e s0 m args below meth c ad dC dI cI cJ cZ A r arr H locs hA hr hl hP hS
  exact lv_i2c hA.1 hA.2.1 hd rfl (k.1 hA hr hl hP hS)
def isC (x : Int32) : Bool := decide (ch16 x = x)
theorem isC_n {x : Int32} (h : isC x = true) : narrow .char (.int x) = .int x := by
  have h := of_decide_eq_true h
  rw [← h]
  exact pk_nc x
theorem r_creturn {x : Int32} (hret : M.2.2.2 = some .char) (hd : decode M.2.1 pc = .ok (.ireturn, 1)) : Sim tI M d (gd (isC x) (some (x, u))) pc ls [.int x] u := by
  refine r_gd (fun hb => ?_)
  refine ⟨?_, trivial⟩
  intro p l e s m args below meth c ad dC dI cI cJ cZ A r arr H locs hA hr hl hP hS
  cases hr
  exact W.zret (v := x) hA.1 hA.2.1 (hA.2.2.2.1.trans hret) (isC_n hb) (fun t ht hW => ⟨⟨rfl, by rw [ht]; exact hP⟩, hS.F ht⟩) hS.2.2 hd hA.2.2.2.2.2.2.1
theorem r_breturn0 (hret : M.2.2.2 = some .byte) (hd : decode M.2.1 pc = .ok (.ireturn, 1)) : Sim tI M d (some (0, u)) pc ls [.int 0] u := by
  refine ⟨?_, trivial⟩
  intro p l e s m args below meth c ad dC dI cI cJ cZ A r arr H locs hA hr hl hP hS
  cases hr
  exact W.zret (v := 0) hA.1 hA.2.1 (hA.2.2.2.1.trans hret) (by decide) (fun t ht hW => ⟨⟨rfl, by rw [ht]; exact hP⟩, hS.F ht⟩) hS.2.2 hd hA.2.2.2.2.2.2.1
/-- a call on a text -/
theorem r_callT {Mc : MI} {dc n idx s : Nat} {As st0 : List Value} {res : Int32 × US} (ck : CK Mc n) (k1 : Cond.methodLink M.1.cls idx Mc.1 ∈ TB) (k2 : Cond.instanceMethod Mc.1 ∈ TB) (k3 : Cond.selects "java/lang/String" Mc.1 Mc.1 ∈ TB) (hs0 : isStr s = true) (hdc : dc < d) (hm : MetC Mc dc (.ref s :: As) u (tI res)) (hn : As.length = n) (hs : (st.map fun v => v.category).sum ≤ 8) (hst : st0 = As.reverse ++ .ref s :: st) (hd : decode M.2.1 pc = .ok (.invokevirtual idx, 3)) (kk : SimQ Z kx M d ex (pc + 3) ls (.int res.1 :: st) res.2) : SimQ Z kx M d ex pc ls st0 u := by
  refine ⟨?_, trivial⟩
  intro p l e s0 m args below meth c ad dC dI cI cJ cZ A r arr H locs hA hr hl hP hS
  subst hst
  obtain ⟨j, hj, rfl⟩ := isStr_s hs0
  have hD := hA.2.2.2.2.2.2.2.2.1 u
  have hf := frA hD hA.2.2.2.2.2.2.2.2.2.1 hS
  refine aft (A1 := va_A (wld ad cI cJ cZ u) H.size) (rest := st.map (av ad)) (res := tI res) (va_runV (As := As.map (av ad)) (b := ad (100 + j)) (Ts := wsM M) (own := M.1.cls) (C := "java/lang/String") ⟨hA.1, hA.2.1, hA.2.2.1, hA.2.2.2.2.1, hA.2.2.2.2.2.1⟩ (hm l hA.2.2.2.2.2.2.2.2.2.2.2.2.1 ad dC dI cI cJ cZ H.size) ⟨ck_B ck hA.2.2.2.2.2.1 (hA.tb k1) rfl hdc, hA.tb k2, hA.tb k3⟩ ⟨PA_blind, vk_recv (adK := fun j => ad (100 + j)) (i := j) hA.sx.1 hj hS, fun U hU hW => ⟨rfl, by rw [hU], by rw [hU]; exact hP, va_K.moved hW.alike hA.2.2.2.2.2.2.2.1, hD.weaken (fun _ _ _ _ => trivial), NW.warm hW hA.2.2.2.2.2.2.2.2.2.2.1, by rw [hU]; exact hA.2.2.2.2.2.2.2.2.2.2.2.1.go hS.2.1 hW hf⟩⟩ rfl (by simpa using hn) hl.1 (by simp [av]) (lv_room (by rw [ctg_sum]; exact hs)) hd ⟨Nat.zero_le _, Nat.zero_le _⟩) hS (fun q _ h => hf q h) hf (fun H1 locs1 hP1 hS1 => ?_)
  exact kk.1 hA hr hl hP1 hS1
end ST
theorem fJ_ck0 : CK mJ0_coder_7d493 0 := ⟨kcJ0_coder_7d493, knJ0, by decide, by decide, by decide +kernel, by decide⟩
theorem fJ_ck1 : CK mJ0_isLatin1_aae02 0 := ⟨kcJ0_isLatin1_aae02, knJ0, by decide, by decide, by decide +kernel, by decide⟩
theorem fJ_ck2 : CK mJ3_checkIndex_8e157 3 := ⟨kcJ3_checkIndex_8e157, knJ3, by decide, by decide, by decide +kernel, by decide⟩
theorem fJ_ck3 : CK mJ0_checkIndex_df160 2 := ⟨kcJ0_checkIndex_df160, knJ0, by decide, by decide, by decide +kernel, by decide⟩
theorem fJ_ck4 : CK mJ1_charAt_3b067 2 := ⟨kcJ1_charAt_3b067, knJ1, by decide, by decide, by decide +kernel, by decide⟩
theorem fJ_ck5 : CK mJ0_length_8abf5 0 := ⟨kcJ0_length_8abf5, knJ0, by decide, by decide, by decide +kernel, by decide⟩
theorem fJ_ck6 : CK mJ0_charAt_5068e 1 := ⟨kcJ0_charAt_5068e, knJ0, by decide, by decide, by decide +kernel, by decide⟩
/-- coder() -/
theorem okJ_coder (s : Nat) (hs : isStr s = true) (u : US) : MetC mJ0_coder_7d493 0 [.ref s] u (tI (0, u)) := by
  refine met_of (ex := if (1 : Int32) = 0 then none else some (0, u)) (by decide +kernel) (Nat.le_of_ble_eq_true rfl) rfl ?_ (0, u) rfl
  refine r_gsC kfJ0_38 dJ0_coder_7d493_0 ?_
  refine r_if_eq dJ0_coder_7d493_3 (tgt := 13) rfl ?_ ?_
  · exact r_none
  · refine r_aload_n dJ0_coder_7d493_6 rfl ?_
    refine r_scod s hs kfJ0_15 dJ0_coder_7d493_7 ?_
    refine r_goto dJ0_coder_7d493_10 (tgt := 14) rfl ?_
    exact r_breturn0 rfl dJ0_coder_7d493_14
theorem okJ_isLatin1 (s : Nat) (hs : isStr s = true) (u : US) : MetC mJ0_isLatin1_aae02 0 [.ref s] u (tI (1, u)) := by
  refine met_of (ex := if (1 : Int32) = 0 then none else if (0 : Int32) = 0 then some (1, u) else none) (by decide +kernel) (Nat.le_of_ble_eq_true rfl) rfl ?_ (1, u) rfl
  refine r_gsC kfJ0_38 dJ0_isLatin1_aae02_0 ?_
  refine r_if_eq dJ0_isLatin1_aae02_3 (tgt := 17) rfl ?_ ?_
  · exact r_none
  · refine r_aload_n dJ0_isLatin1_aae02_6 rfl ?_
    refine r_scod s hs kfJ0_15 dJ0_isLatin1_aae02_7 ?_
    refine r_if_ne dJ0_isLatin1_aae02_10 (tgt := 17) rfl ?_ ?_
    · exact r_none
    · refine r_iconst dJ0_isLatin1_aae02_13 (v := 1) rfl ?_
      refine r_goto dJ0_isLatin1_aae02_14 (tgt := 18) rfl ?_
      exact r_zreturn1 rfl dJ0_isLatin1_aae02_18
def fJ_chk (v0 v1 : Int32) (u : US) : Option (Int32 × US) := if v0 < 0 then none else if v0 < v1 then some (v0, u) else none
theorem okJ_chk3 (v0 v1 : Int32) (w : Value) (hw : w = .null ∨ w = .ref 120) (u : US) : ∀ r, fJ_chk v0 v1 u = some r → MetC mJ3_checkIndex_8e157 0 [.int v0, .int v1, w] u (tI r) := by
  have key : Sim tI mJ3_checkIndex_8e157 0 (fJ_chk v0 v1 u) 0 [some (.int v0), some (.int v1), some w] [] u := by
    unfold fJ_chk
    refine r_iload_n dJ3_checkIndex_8e157_0 rfl ?_
    refine r_if_lt dJ3_checkIndex_8e157_1 (tgt := 9) rfl ?_ ?_
    · exact r_none
    · refine r_iload_n dJ3_checkIndex_8e157_4 rfl ?_
      refine r_iload_n dJ3_checkIndex_8e157_5 rfl ?_
      refine r_icmp_lt dJ3_checkIndex_8e157_6 (tgt := 16) rfl ?_ ?_
      · refine r_iload_n dJ3_checkIndex_8e157_16 rfl ?_
        exact r_ireturn rfl dJ3_checkIndex_8e157_17
      · exact r_none
  rcases hw with rfl | rfl
  · exact met_of (by decide +kernel) (Nat.le_of_ble_eq_true rfl) rfl key
  · exact met_of (by decide +kernel) (Nat.le_of_ble_eq_true rfl) rfl key
theorem okJ_chk (v0 v1 : Int32) (u : US) : ∀ r, (oB (fJ_chk v0 v1 u) fun _ u1 => some u1) = some r → MetC mJ0_checkIndex_df160 1 [.int v0, .int v1] u (tV r) := by
  refine met_of (by decide +kernel) (Nat.le_of_ble_eq_true rfl) rfl ?_
  refine r_iload_n dJ0_checkIndex_df160_0 rfl ?_
  refine r_iload_n dJ0_checkIndex_df160_1 rfl ?_
  refine r_gsF kfJ0_1053 dJ0_checkIndex_df160_2 (fun w hw => ?_)
  refine c_SI (As := [.int v0, .int v1, w]) ⟨fJ_ck2, kmJ0_1059, ktJ3_checkIndex_8e157⟩ (by decide) (okJ_chk3 v0 v1 w hw u) rfl (Nat.le_of_ble_eq_true rfl) rfl dJ0_checkIndex_df160_5 (fun r1 u1 => ?_)
  refine r_pop dJ0_checkIndex_df160_8 rfl ?_
  exact r_return rfl dJ0_checkIndex_df160_9
def fJ_lat (b : Nat) (x : Int32) (u : US) : Option (Int32 × US) := oV (oB (fJ_chk x (nI (lenS.getD (b - 110) 0)) u) fun _ u1 => some u1) fun u1 => gd (inb x (lenS.getD (b - 110) 0)) (gd (isC (ch16 ((bytS.getD (b - 110) []).getD x.toNatClampNeg 0 &&& 255))) (some (ch16 ((bytS.getD (b - 110) []).getD x.toNatClampNeg 0 &&& 255), u1)))
theorem okJ_lat (b : Nat) (hb : isByt b = true) (x : Int32) (u : US) : ∀ r, fJ_lat b x u = some r → MetC mJ1_charAt_3b067 2 [.ref b, .int x] u (tI r) := by
  refine met_of (by decide +kernel) (Nat.le_of_ble_eq_true rfl) rfl ?_
  unfold fJ_lat
  refine r_iload_n dJ1_charAt_3b067_0 rfl ?_
  refine r_aload_n dJ1_charAt_3b067_1 rfl ?_
  refine r_btl b hb dJ1_charAt_3b067_2 ?_
  refine c_SV (As := [.int x, .int (nI (lenS.getD (b - 110) 0))]) ⟨fJ_ck3, kmJ1_9, ktJ0_checkIndex_df160⟩ (by decide) (okJ_chk x (nI (lenS.getD (b - 110) 0)) u) rfl (Nat.le_of_ble_eq_true rfl) rfl dJ1_charAt_3b067_3 (fun u1 => ?_)
  refine r_aload_n dJ1_charAt_3b067_6 rfl ?_
  refine r_iload_n dJ1_charAt_3b067_7 rfl ?_
  refine r_btb b hb dJ1_charAt_3b067_8 ?_
  refine r_sipush dJ1_charAt_3b067_9 (v := 255) rfl ?_
  refine r_iand dJ1_charAt_3b067_12 ?_
  refine r_i2c dJ1_charAt_3b067_13 ?_
  exact r_creturn rfl dJ1_charAt_3b067_14
theorem okJ_len (s : Nat) (hs : isStr s = true) (u : US) : MetC mJ0_length_8abf5 1 [.ref s] u (tI (nI (lenS.getD (s - 100) 0), u)) := by
  have hb : isByt (s + 10) = true := by
    obtain ⟨j, hj, rfl⟩ := isStr_s hs
    unfold isByt
    simp only [Bool.and_eq_true, decide_eq_true_eq]
    omega
  refine met_of (ex := some (nI (lenS.getD (s + 10 - 110) 0) >>> ((0 : Int32) &&& 31), u)) (by decide +kernel) (Nat.le_of_ble_eq_true rfl) rfl ?_ (nI (lenS.getD (s - 100) 0), u) ?_
  · refine r_aload_n dJ0_length_8abf5_0 rfl ?_
    refine r_sval s hs kfJ0_9 dJ0_length_8abf5_1 ?_
    refine r_btl (s + 10) hb dJ0_length_8abf5_4 ?_
    refine r_aload_n dJ0_length_8abf5_5 rfl ?_
    refine r_callT (As := []) (res := (0, u)) fJ_ck0 kmJ0_335 kiJ0_coder_7d493 ksJ0_coder_7d493 hs (by decide) (okJ_coder s hs u) rfl (Nat.le_of_ble_eq_true rfl) rfl dJ0_length_8abf5_6 ?_
    refine r_ishr dJ0_length_8abf5_9 ?_
    exact r_ireturn rfl dJ0_length_8abf5_10
  · rw [sb_shr0, show s + 10 - 110 = s - 100 by omega]
theorem fJ_all : ∀ j, j < 7 → (lenS.getD j 0 < 2 ^ 31 ∧ ∀ k, k < lenS.getD j 0 → (isC (ch16 ((bytS.getD j []).getD k 0 &&& 255)) = true ∧ ch16 ((bytS.getD j []).getD k 0 &&& 255) = (bytS.getD j []).getD k 0 ∧ isC ((bytS.getD j []).getD k 0) = true)) := by decide +kernel
theorem okJ_char (s : Nat) (hs : isStr s = true) (x : Int32) (u : US) (hx : inb x (lenS.getD (s - 100) 0) = true) : MetC mJ0_charAt_5068e 3 [.ref s, .int x] u (tI ((bytS.getD (s - 100) []).getD x.toNatClampNeg 0, u)) := by
  obtain ⟨j, hj, rfl⟩ := isStr_s hs
  have hb : isByt (100 + j + 10) = true := by
    unfold isByt
    simp only [Bool.and_eq_true, decide_eq_true_eq]
    omega
  refine met_of (ex := if (1 : Int32) = 0 then none else oB (fJ_lat (100 + j + 10) x u) fun r2 u2 => gd (isC r2) (some (r2, u2))) (by decide +kernel) (Nat.le_of_ble_eq_true rfl) rfl ?_ ((bytS.getD (100 + j - 100) []).getD x.toNatClampNeg 0, u) ?_
  · refine r_aload_n dJ0_charAt_5068e_0 rfl ?_
    refine r_callT (As := []) (res := (1, u)) fJ_ck1 kmJ0_492 kiJ0_isLatin1_aae02 ksJ0_isLatin1_aae02 hs (by decide) (okJ_isLatin1 _ hs u) rfl (Nat.le_of_ble_eq_true rfl) rfl dJ0_charAt_5068e_1 ?_
    refine r_if_eq dJ0_charAt_5068e_4 (tgt := 16) rfl ?_ ?_
    · exact r_none
    · refine r_aload_n dJ0_charAt_5068e_7 rfl ?_
      refine r_sval (100 + j) hs kfJ0_9 dJ0_charAt_5068e_8 ?_
      refine r_iload_n dJ0_charAt_5068e_11 rfl ?_
      refine c_SI (As := [.ref (100 + j + 10), .int x]) ⟨fJ_ck4, kmJ0_495, ktJ1_charAt_3b067⟩ (by decide) (okJ_lat (100 + j + 10) hb x u) rfl (Nat.le_of_ble_eq_true rfl) rfl dJ0_charAt_5068e_12 (fun r2 u2 => ?_)
      exact r_creturn rfl dJ0_charAt_5068e_15
  · rw [show 100 + j - 100 = j by omega] at hx ⊢
    have hl : lenS.getD j 0 < 2 ^ 31 := (fJ_all j hj).1
    obtain ⟨k, hk, rfl⟩ := vp_in_of (inb_vp hx) hl
    obtain ⟨a1, a2, a3⟩ := (fJ_all j hj).2 k hk
    have e1 : fJ_chk (nI k) (nI (lenS.getD j 0)) u = some (nI k, u) := by
      unfold fJ_chk
      rw [if_neg (nI_pos (by omega)), if_pos (nI_lt hk hl)]
    have e2 : fJ_lat (100 + j + 10) (nI k) u = some ((bytS.getD j []).getD k 0, u) := by
      unfold fJ_lat
      rw [show 100 + j + 10 - 110 = j by omega, e1, nI_clamp (by omega)]
      simp only [oB, oV, gd, hx, a1, a2, a3, cond_true]
    rw [if_neg (by decide), e2, nI_clamp (by omega)]
    simp only [oB, gd, a3, cond_true]
section ST2
variable {ρ : Type} {Z : QT ρ} {kx : Nat} {M : MI} {d pc : Nat} {ex : Option ρ} {ls : LL} {st : List Value} {u : US}
theorem r_slen (s : Nat) {idx : Nat} (hs : isStr s = true) (hlk : Cond.methodLink M.1.cls idx yJ0_length_8abf5 ∈ TB) (hd1 : 5 ≤ d) (hw : (st.map fun v => v.category).sum ≤ 8) (hd : decode M.2.1 pc = .ok (.invokevirtual idx, 3)) (k : SimQ Z kx M d ex (pc + 3) ls (.int (nI (lenS.getD (s - 100) 0)) :: st) u) : SimQ Z kx M d ex pc ls (.ref s :: st) u := by
  exact r_callT (As := []) (res := (nI (lenS.getD (s - 100) 0), u)) fJ_ck5 hlk kiJ0_length_8abf5 ksJ0_length_8abf5 hs (show 1 < d by omega) (okJ_len s hs u) rfl hw rfl hd k
theorem r_char (s : Nat) {idx : Nat} {x : Int32} (hs : isStr s = true) (hlk : Cond.methodLink M.1.cls idx yJ0_charAt_5068e ∈ TB) (hd1 : 5 ≤ d) (hw : (st.map fun v => v.category).sum ≤ 8) (hd : decode M.2.1 pc = .ok (.invokevirtual idx, 3)) (k : SimQ Z kx M d ex (pc + 3) ls (.int ((bytS.getD (s - 100) []).getD x.toNatClampNeg 0) :: st) u) : SimQ Z kx M d (gd (inb x (lenS.getD (s - 100) 0)) ex) pc ls (.int x :: .ref s :: st) u := by
  refine r_gd (fun hb => ?_)
  exact r_callT (As := [.int x]) (res := ((bytS.getD (s - 100) []).getD x.toNatClampNeg 0, u)) fJ_ck6 hlk kiJ0_charAt_5068e ksJ0_charAt_5068e hs (show 3 < d by omega) (okJ_char s hs x u hb) rfl hw rfl hd k
end ST2
