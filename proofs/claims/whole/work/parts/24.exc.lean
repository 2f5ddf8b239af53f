/-! methods that may throw NoSuchElementException -/
def NSE : String := "java/util/NoSuchElementException"
def QXf {α : Type} (f : α → Value) (r : Option α × US) (ad : Nat → Nat) (dC : Nat → ClassId) (dI : Nat → Nat → Nat) (cI cJ cZ : ClassId) (A : Nat → Prop) : Array Value → State → Outcome → State → Prop := fun a st o t => ∃ v, r.1 = some v ∧ QA ad dC dI cI cJ cZ A (some (f v), r.2) a st o t
def XXf {α : Type} (r : Option α × US) (ad : Nat → Nat) (dC : Nat → ClassId) (dI : Nat → Nat → Nat) (cI cJ cZ : ClassId) (A : Nat → Prop) : String → State → State → Prop := fun E st t => r.1 = none ∧ E = NSE ∧ va_P (dC, dI) vwCl (wld ad cI cJ cZ r.2) t.heap ∧ va_F A st t
def Zx {α : Type} (f : α → Value) : QT (Option α × US) := fun r below args s ad dC dI cI cJ cZ A => vx_MQ below (QXf f r ad dC dI cI cJ cZ A) (XXf r ad dC dI cI cJ cZ A) args s 1 6 A
def MetX {α : Type} (f : α → Value) (M : MI) (d : Nat) (avs : List Value) (u : US) (r : Option α × US) : Prop :=
  ∀ (l : Launch), l.stackTraces = false → ∀ (ad : Nat → Nat) (dC : Nat → ClassId) (dI : Nat → Nat → Nat) (cI cJ cZ : ClassId) (sz : Nat),
    vx_Met l M.1 (wsM M) (rmK 1 d) (va_Pc (avs.map (av ad)) (PA ad dC dI cI cJ cZ sz u)) (QXf f r ad dC dI cI cJ cZ (va_A (wld ad cI cJ cZ u) sz)) (XXf r ad dC dI cI cJ cZ (va_A (wld ad cI cJ cZ u) sz)) 1 6 (va_A (wld ad cI cJ cZ u) sz)
theorem XL_in : ∀ w ∈ XL.filter goodWord, w ∈ TB := by decide +kernel
theorem XL_ot : (Cond.classLink RX11 167 NSE :: Cond.initialized NSE :: XL).all vx_ot = true := by decide +kernel
theorem kxC : Cond.classLink RX11 167 NSE ∈ TB := by decide +kernel
theorem kxI : Cond.initialized NSE ∈ TB := by decide +kernel
section SE
variable {M : MI} {d pc : Nat} {ls : LL} {st : List Value} {u : US}
theorem r_ireturnX {x : Int32} (hret : M.2.2.2 = some .int) (hd : decode M.2.1 pc = .ok (.ireturn, 1)) : SimQ (Zx Value.int) 1 M d (some (some x, u)) pc ls [.int x] u := by
  refine ⟨?_, trivial⟩
  intro p l e s m args below meth c ad dC dI cI cJ cZ A r arr H locs hA hr hl hP hS
  cases hr
  refine W.widen (k := 1) (n := 6) (Nat.zero_le _) (Nat.zero_le _) (vx_ret ?_)
  exact W.iret (v := x) hA.1 hA.2.1 (hA.2.2.2.1.trans hret) (fun t ht hW => ⟨x, rfl, ⟨rfl, by rw [ht]; exact hP⟩, hS.F ht⟩) hS.2.2 hd hA.2.2.2.2.2.2.1
theorem r_lreturnX {x : Int64} (hret : M.2.2.2 = some .long) (hd : decode M.2.1 pc = .ok (.lreturn, 1)) : SimQ (Zx Value.long) 1 M d (some (some x, u)) pc ls [.long x] u := by
  refine ⟨?_, trivial⟩
  intro p l e s m args below meth c ad dC dI cI cJ cZ A r arr H locs hA hr hl hP hS
  cases hr
  refine W.widen (k := 1) (n := 6) (Nat.zero_le _) (Nat.zero_le _) (vx_ret ?_)
  exact W.lret (v := x) hA.1 hA.2.1 (hA.2.2.2.1.trans hret) (fun t ht hW => ⟨x, rfl, ⟨rfl, by rw [ht]; exact hP⟩, hS.F ht⟩) hS.2.2 hd hA.2.2.2.2.2.2.1
theorem r_throwX {α : Type} {f : α → Value} (hM : M.1.cls = RX11) (hd6 : 6 ≤ d) (hs : (st.map fun v => v.category).sum ≤ 8) (d0 : decode M.2.1 pc = .ok (.new 167, 3)) (d3 : decode M.2.1 (pc + 3) = .ok (.dup, 1)) (d4 : decode M.2.1 (pc + 4) = .ok (.invokespecial 169, 3)) (d7 : decode M.2.1 (pc + 7) = .ok (.athrow, 1)) : SimQ (Zx f) 1 M d (some ((none : Option α), u)) pc ls st u := by
  refine ⟨?_, trivial⟩
  intro p l e s m args below meth c ad dC dI cI cJ cZ A r arr H locs hA hr hl hP hS
  cases hr
  have ho := hA.2.2.2.2.1
  rw [hM] at ho
  have hX := hA.2.2.2.2.2.2.2.2.2.2.2.1
  refine vx_throw0 (own := RX11) (cls := NSE) (names := ["java/lang/RuntimeException", "java/lang/Exception"]) hA.1 hA.2.1 hA.2.2.2.2.2.2.2.2.2.2.2.2.1 ho (by decide +kernel) (by decide +kernel) (hA.tb kxC) (hA.tb kxI)
    (vx_hat (B := XB) (fun w hw => hA.tb (XL_in w hw)) (fun w hw => hw) (fun w hw => va_Nw.use (List.all_eq_true.mp XB_ot w hw) (hA.2.2.2.2.2.2.2.2.2.2.1.1 w hw)))
    (fun w hw => List.all_eq_true.mp XL_ot w hw) hX.2.2.2.2.1 hX.2.2.2.2.2 hS (hl.1.trans hA.2.2.1.symm) d0 d3 d4 d7 (fun x hx => (hA.2.2.2.2.2.2.2.2.2.2.2.2.2 rfl x hx).elim)
    (show 2 + 3 < d by omega) (by rw [ctg_sum]; show _ ≤ 64 * d; simp only [List.length]; omega) (Nat.le_refl 1) (Nat.le_refl 6) hA.2.2.2.2.2.2.1 (fun t ht hz hq => ⟨rfl, rfl, hP.kept (fun k q hk => hq q.1 (vx_lt hP hk)), Nat.le_trans hS.1 hz, fun q h1 h2 => ?_⟩) hS.2.2 (Nat.le_refl 1) (Nat.le_refl 6)
  rw [hq q (Nat.lt_of_lt_of_le h1 hS.1)]
  exact hS.2.1 q h1 h2
theorem met_ofX {α : Type} {f : α → Value} {ex : Option (Option α × US)} {avs : List Value} (hy : plainName M.1.cls = true) (hln : (lg_sl avs).length ≤ M.2.2.1) (hls : pad M.2.2.1 (entL avs) = ls) (h : SimQ (Zx f) 1 M d ex 0 ls [] u) (r : Option α × US) (hr : ex = some r) : MetX f M d avs u r := by
  intro l hlt ad dC dI cI cJ cZ sz
  subst hls
  refine vx_ofW (cc := M.2.1) (maxL := M.2.2.1) (ret := M.2.2.2) hy rfl ?_
  intro p e s m args below meth c s₁ B hml hte hv
  obtain ⟨rfl, hsz, hP, hK, hD0, hN, hX⟩ := hv
  subst hsz
  have hD := hD0.self (sz := s.heap.size)
  rw [lg_entry_eq]
  have hl := lv_entry (avs.map (av ad)) (n := M.2.2.1) (by rw [sl_len]; exact hln)
  refine h.1 (A := va_A (wld ad cI cJ cZ u) s.heap.size) ⟨B.exec, B.bytes, hml, B.returns, findClass_of_methodNamed B.named, atoms_spec (ws := wsM M) B.pre, B.notSynchronized, hK, fun u2 => wld_D hD u2, fun q hq => Or.inr hq, hN, hX, hlt, fun _ => hte⟩ hr ?_ hP va_S.rf
  exact ⟨hl.1, hl.2.1, fun i v hi => hl.2.2 (i, av ad v) (by have := entL_args (ad := ad) avs 0 i v (pad_in hi); simpa using this)⟩
end SE
def fX11_pane (v1 : Int32) (v2 : Int32) (u : US) : Option (Option Int32 × US) :=
  oB (fX8_isPane v1 u) fun r1 u1 => (if r1 = 0 then some (none, u1) else (if v2 = 0 then gd (inb v1 8) (some (some (gA u1 18 v1), u1)) else (if v2 = 1 then gd (inb v1 8) (some (some (gA u1 19 v1), u1)) else (if v2 = 2 then gd (inb v1 8) (some (some (gA u1 24 v1), u1)) else (if v2 = 3 then oB (fX1_isBroken 4 v1 u1) fun r2 u2 => (if r2 = 0 then some (some 0, u2) else some (some 1, u2)) else (if v2 = 4 then oB (fX8_allThings u1) fun r3 u3 => oB (fX8_through 4 v1 r3 u3) fun r4 u4 => some (some r4, u4) else some (none, u1)))))))
set_option maxRecDepth 20000 in
theorem sX11_pane (v1 : Int32) (v2 : Int32) (u : US) : SimQ (Zx Value.int) 1 mX11_pane 6 (fX11_pane v1 v2 u) 0 [some (.ref 0), some (.int v1), some (.int v2)] [] u := by
  unfold fX11_pane
  refine r_aload_n dX11_pane_0 rfl ?_
  refine r_get 0 2 flX11_28 rfl (v := .ref 3) rfl dX11_pane_1 ?_
  refine r_iload_n dX11_pane_4 rfl ?_
  refine c_VI (As := [.int v1]) kvX11_187 rfl (by decide) (okX8_isPane v1 u) rfl (Nat.le_of_ble_eq_true rfl) rfl dX11_pane_5 (fun r1 u1 => ?_)
  refine r_if_ne dX11_pane_8 (tgt := 19) rfl ?_ ?_
  · refine r_iload_n dX11_pane_19 rfl ?_
    refine r_ite (fun hc0 => ?_) (fun hc0 => ?_)
    · refine r_tabIn dX11_pane_20 (off := 36) (by rw [hc0]; decide) (by rw [hc0]; decide) (by rw [hc0]; rfl) (tgt := 56) rfl ?_
      refine r_aload_n dX11_pane_56 rfl ?_
      refine r_get 0 2 flX11_28 rfl (v := .ref 3) rfl dX11_pane_57 ?_
      refine r_get 3 7 flX11_190 rfl (v := .ref 18) rfl dX11_pane_60 ?_
      refine r_iload_n dX11_pane_63 rfl ?_
      refine r_iald 18 rfl dX11_pane_64 ?_
      exact r_ireturnX rfl dX11_pane_65
    refine r_ite (fun hc1 => ?_) (fun hc1 => ?_)
    · refine r_tabIn dX11_pane_20 (off := 46) (by rw [hc1]; decide) (by rw [hc1]; decide) (by rw [hc1]; rfl) (tgt := 66) rfl ?_
      refine r_aload_n dX11_pane_66 rfl ?_
      refine r_get 0 2 flX11_28 rfl (v := .ref 3) rfl dX11_pane_67 ?_
      refine r_get 3 8 flX11_193 rfl (v := .ref 19) rfl dX11_pane_70 ?_
      refine r_iload_n dX11_pane_73 rfl ?_
      refine r_iald 19 rfl dX11_pane_74 ?_
      exact r_ireturnX rfl dX11_pane_75
    refine r_ite (fun hc2 => ?_) (fun hc2 => ?_)
    · refine r_tabIn dX11_pane_20 (off := 56) (by rw [hc2]; decide) (by rw [hc2]; decide) (by rw [hc2]; rfl) (tgt := 76) rfl ?_
      refine r_aload_n dX11_pane_76 rfl ?_
      refine r_get 0 3 flX11_35 rfl (v := .ref 4) rfl dX11_pane_77 ?_
      refine r_get 4 2 flX11_196 rfl (v := .ref 24) rfl dX11_pane_80 ?_
      refine r_iload_n dX11_pane_83 rfl ?_
      refine r_iald 24 rfl dX11_pane_84 ?_
      exact r_ireturnX rfl dX11_pane_85
    refine r_ite (fun hc3 => ?_) (fun hc3 => ?_)
    · refine r_tabIn dX11_pane_20 (off := 66) (by rw [hc3]; decide) (by rw [hc3]; decide) (by rw [hc3]; rfl) (tgt := 86) rfl ?_
      refine r_aload_n dX11_pane_86 rfl ?_
      refine r_get 0 3 flX11_35 rfl (v := .ref 4) rfl dX11_pane_87 ?_
      refine r_iload_n dX11_pane_90 rfl ?_
      refine c_VI (As := [.int v1]) kvX11_199 rfl (by decide) (okX1_isBroken 4 v1 u1) rfl (Nat.le_of_ble_eq_true rfl) rfl dX11_pane_91 (fun r2 u2 => ?_)
      refine r_if_eq dX11_pane_94 (tgt := 101) rfl ?_ ?_
      · refine r_iconst dX11_pane_101 (v := 0) rfl ?_
        exact r_ireturnX rfl dX11_pane_102
      · refine r_iconst dX11_pane_97 (v := 1) rfl ?_
        refine r_goto dX11_pane_98 (tgt := 102) rfl ?_
        exact r_ireturnX rfl dX11_pane_102
    refine r_ite (fun hc4 => ?_) (fun hc4 => ?_)
    · refine r_tabIn dX11_pane_20 (off := 83) (by rw [hc4]; decide) (by rw [hc4]; decide) (by rw [hc4]; rfl) (tgt := 103) rfl ?_
      refine r_aload_n dX11_pane_103 rfl ?_
      refine r_get 0 2 flX11_28 rfl (v := .ref 3) rfl dX11_pane_104 ?_
      refine r_aload_n dX11_pane_107 rfl ?_
      refine r_get 0 3 flX11_35 rfl (v := .ref 4) rfl dX11_pane_108 ?_
      refine r_iload_n dX11_pane_111 rfl ?_
      refine r_aload_n dX11_pane_112 rfl ?_
      refine r_get 0 2 flX11_28 rfl (v := .ref 3) rfl dX11_pane_113 ?_
      refine c_VI (As := []) kvX11_202 rfl (by decide) (okX8_allThings u1) rfl (Nat.le_of_ble_eq_true rfl) rfl dX11_pane_116 (fun r3 u3 => ?_)
      refine c_VI (As := [.ref 4, .int v1, .int r3]) kvX11_205 rfl (by decide) (okX8_through 4 v1 r3 u3) rfl (Nat.le_of_ble_eq_true rfl) rfl dX11_pane_119 (fun r4 u4 => ?_)
      exact r_ireturnX rfl dX11_pane_122
    have hn0 := ne_int hc0
    have hn1 := ne_int hc1
    have hn2 := ne_int hc2
    have hn3 := ne_int hc3
    have hn4 := ne_int hc4
    rw [show (0 : Int32).toInt = 0 from rfl] at hn0
    rw [show (1 : Int32).toInt = 1 from rfl] at hn1
    rw [show (2 : Int32).toInt = 2 from rfl] at hn2
    rw [show (3 : Int32).toInt = 3 from rfl] at hn3
    rw [show (4 : Int32).toInt = 4 from rfl] at hn4
    refine r_tabOut dX11_pane_20 (by omega) (tgt := 123) rfl ?_
    exact r_throwX rfl (by decide) (Nat.le_of_ble_eq_true rfl) dX11_pane_123 dX11_pane_126 dX11_pane_127 dX11_pane_130
  · exact r_throwX rfl (by decide) (Nat.le_of_ble_eq_true rfl) dX11_pane_11 dX11_pane_14 dX11_pane_15 dX11_pane_18
theorem okX11_pane (v1 : Int32) (v2 : Int32) (u : US) : ∀ r, fX11_pane v1 v2 u = some r → MetX Value.int mX11_pane 6 [.ref 0, .int v1, .int v2] u r :=
  met_ofX (by decide +kernel) (Nat.le_of_ble_eq_true rfl) rfl (sX11_pane v1 v2 u)
def fX11_room (v1 : Int32) (v2 : Int32) (u : US) : Option (Option Int32 × US) :=
  oB (fX8_isRoom v1 u) fun r1 u1 => (if r1 = 0 then some (none, u1) else (if v2 = 0 then gd (inb v1 4) (some (some (gA u1 20 v1), u1)) else (if v2 = 1 then gd (inb v1 4) (some (some (gA u1 21 v1), u1)) else (if v2 = 2 then oB (fX8_panesIn 4 v1 u1) fun r2 u2 => some (some r2, u2) else (if v2 = 3 then oB (fX8_seenFrom 4 v1 u1) fun r3 u3 => some (some r3, u3) else (if v2 = 4 then oB (fX8_near 4 v1 u1) fun r4 u4 => some (some r4, u4) else some (none, u1)))))))
set_option maxRecDepth 20000 in
theorem sX11_room (v1 : Int32) (v2 : Int32) (u : US) : SimQ (Zx Value.int) 1 mX11_room 9 (fX11_room v1 v2 u) 0 [some (.ref 0), some (.int v1), some (.int v2)] [] u := by
  unfold fX11_room
  refine r_aload_n dX11_room_0 rfl ?_
  refine r_get 0 2 flX11_28 rfl (v := .ref 3) rfl dX11_room_1 ?_
  refine r_iload_n dX11_room_4 rfl ?_
  refine c_VI (As := [.int v1]) kvX11_209 rfl (by decide) (okX8_isRoom v1 u) rfl (Nat.le_of_ble_eq_true rfl) rfl dX11_room_5 (fun r1 u1 => ?_)
  refine r_if_ne dX11_room_8 (tgt := 19) rfl ?_ ?_
  · refine r_iload_n dX11_room_19 rfl ?_
    refine r_ite (fun hc0 => ?_) (fun hc0 => ?_)
    · refine r_tabIn dX11_room_20 (off := 36) (by rw [hc0]; decide) (by rw [hc0]; decide) (by rw [hc0]; rfl) (tgt := 56) rfl ?_
      refine r_aload_n dX11_room_56 rfl ?_
      refine r_get 0 2 flX11_28 rfl (v := .ref 3) rfl dX11_room_57 ?_
      refine r_get 3 9 flX11_212 rfl (v := .ref 20) rfl dX11_room_60 ?_
      refine r_iload_n dX11_room_63 rfl ?_
      refine r_iald 20 rfl dX11_room_64 ?_
      exact r_ireturnX rfl dX11_room_65
    refine r_ite (fun hc1 => ?_) (fun hc1 => ?_)
    · refine r_tabIn dX11_room_20 (off := 46) (by rw [hc1]; decide) (by rw [hc1]; decide) (by rw [hc1]; rfl) (tgt := 66) rfl ?_
      refine r_aload_n dX11_room_66 rfl ?_
      refine r_get 0 2 flX11_28 rfl (v := .ref 3) rfl dX11_room_67 ?_
      refine r_get 3 10 flX11_215 rfl (v := .ref 21) rfl dX11_room_70 ?_
      refine r_iload_n dX11_room_73 rfl ?_
      refine r_iald 21 rfl dX11_room_74 ?_
      exact r_ireturnX rfl dX11_room_75
    refine r_ite (fun hc2 => ?_) (fun hc2 => ?_)
    · refine r_tabIn dX11_room_20 (off := 56) (by rw [hc2]; decide) (by rw [hc2]; decide) (by rw [hc2]; rfl) (tgt := 76) rfl ?_
      refine r_aload_n dX11_room_76 rfl ?_
      refine r_get 0 2 flX11_28 rfl (v := .ref 3) rfl dX11_room_77 ?_
      refine r_aload_n dX11_room_80 rfl ?_
      refine r_get 0 3 flX11_35 rfl (v := .ref 4) rfl dX11_room_81 ?_
      refine r_iload_n dX11_room_84 rfl ?_
      refine c_VI (As := [.ref 4, .int v1]) kvX11_218 rfl (by decide) (okX8_panesIn 4 v1 u1) rfl (Nat.le_of_ble_eq_true rfl) rfl dX11_room_85 (fun r2 u2 => ?_)
      exact r_ireturnX rfl dX11_room_88
    refine r_ite (fun hc3 => ?_) (fun hc3 => ?_)
    · refine r_tabIn dX11_room_20 (off := 69) (by rw [hc3]; decide) (by rw [hc3]; decide) (by rw [hc3]; rfl) (tgt := 89) rfl ?_
      refine r_aload_n dX11_room_89 rfl ?_
      refine r_get 0 2 flX11_28 rfl (v := .ref 3) rfl dX11_room_90 ?_
      refine r_aload_n dX11_room_93 rfl ?_
      refine r_get 0 3 flX11_35 rfl (v := .ref 4) rfl dX11_room_94 ?_
      refine r_iload_n dX11_room_97 rfl ?_
      refine c_VI (As := [.ref 4, .int v1]) kvX11_221 rfl (by decide) (okX8_seenFrom 4 v1 u1) rfl (Nat.le_of_ble_eq_true rfl) rfl dX11_room_98 (fun r3 u3 => ?_)
      exact r_ireturnX rfl dX11_room_101
    refine r_ite (fun hc4 => ?_) (fun hc4 => ?_)
    · refine r_tabIn dX11_room_20 (off := 82) (by rw [hc4]; decide) (by rw [hc4]; decide) (by rw [hc4]; rfl) (tgt := 102) rfl ?_
      refine r_aload_n dX11_room_102 rfl ?_
      refine r_get 0 2 flX11_28 rfl (v := .ref 3) rfl dX11_room_103 ?_
      refine r_aload_n dX11_room_106 rfl ?_
      refine r_get 0 3 flX11_35 rfl (v := .ref 4) rfl dX11_room_107 ?_
      refine r_iload_n dX11_room_110 rfl ?_
      refine c_VI (As := [.ref 4, .int v1]) kvX11_224 rfl (by decide) (okX8_near 4 v1 u1) rfl (Nat.le_of_ble_eq_true rfl) rfl dX11_room_111 (fun r4 u4 => ?_)
      exact r_ireturnX rfl dX11_room_114
    have hn0 := ne_int hc0
    have hn1 := ne_int hc1
    have hn2 := ne_int hc2
    have hn3 := ne_int hc3
    have hn4 := ne_int hc4
    rw [show (0 : Int32).toInt = 0 from rfl] at hn0
    rw [show (1 : Int32).toInt = 1 from rfl] at hn1
    rw [show (2 : Int32).toInt = 2 from rfl] at hn2
    rw [show (3 : Int32).toInt = 3 from rfl] at hn3
    rw [show (4 : Int32).toInt = 4 from rfl] at hn4
    refine r_tabOut dX11_room_20 (by omega) (tgt := 115) rfl ?_
    exact r_throwX rfl (by decide) (Nat.le_of_ble_eq_true rfl) dX11_room_115 dX11_room_118 dX11_room_119 dX11_room_122
  · exact r_throwX rfl (by decide) (Nat.le_of_ble_eq_true rfl) dX11_room_11 dX11_room_14 dX11_room_15 dX11_room_18
theorem okX11_room (v1 : Int32) (v2 : Int32) (u : US) : ∀ r, fX11_room v1 v2 u = some r → MetX Value.int mX11_room 9 [.ref 0, .int v1, .int v2] u r :=
  met_ofX (by decide +kernel) (Nat.le_of_ble_eq_true rfl) rfl (sX11_room v1 v2 u)
def fX11_row (v1 : Int32) (u : US) : Option (Option Int64 × US) :=
  (if v1 < 0 then some (none, u) else (if v1 < (gI u 8 1) then gd (inb v1 36) (some (some (gJ u 33 v1), u)) else some (none, u)))
set_option maxRecDepth 20000 in
theorem sX11_row (v1 : Int32) (u : US) : SimQ (Zx Value.long) 1 mX11_row 6 (fX11_row v1 u) 0 [some (.ref 0), some (.int v1)] [] u := by
  unfold fX11_row
  refine r_iload_n dX11_row_0 rfl ?_
  refine r_if_lt dX11_row_1 (tgt := 15) rfl ?_ ?_
  · exact r_throwX rfl (by decide) (Nat.le_of_ble_eq_true rfl) dX11_row_15 dX11_row_18 dX11_row_19 dX11_row_22
  · refine r_iload_n dX11_row_4 rfl ?_
    refine r_aload_n dX11_row_5 rfl ?_
    refine r_get 0 7 flX11_55 rfl (v := .ref 8) rfl dX11_row_6 ?_
    refine r_get 8 1 flX11_482 rfl (v := .int (gI u 8 1)) rfl dX11_row_9 ?_
    refine r_icmp_lt dX11_row_12 (tgt := 23) rfl ?_ ?_
    · refine r_aload_n dX11_row_23 rfl ?_
      refine r_get 0 7 flX11_55 rfl (v := .ref 8) rfl dX11_row_24 ?_
      refine r_get 8 0 flX11_486 rfl (v := .ref 33) rfl dX11_row_27 ?_
      refine r_iload_n dX11_row_30 rfl ?_
      refine r_lald 33 rfl dX11_row_31 ?_
      exact r_lreturnX rfl dX11_row_32
    · exact r_throwX rfl (by decide) (Nat.le_of_ble_eq_true rfl) dX11_row_15 dX11_row_18 dX11_row_19 dX11_row_22
theorem okX11_row (v1 : Int32) (u : US) : ∀ r, fX11_row v1 u = some r → MetX Value.long mX11_row 6 [.ref 0, .int v1] u r :=
  met_ofX (by decide +kernel) (Nat.le_of_ble_eq_true rfl) rfl (sX11_row v1 u)
def fX11_thing (v1 : Int32) (v2 : Int32) (u : US) : Option (Option Int32 × US) :=
  oB (fX8_isThing v1 u) fun r1 u1 => (if r1 = 0 then some (none, u1) else (if v2 = 0 then gd (inb v1 8) (some (some (gA u1 16 v1), u1)) else (if v2 = 1 then gd (inb v1 8) (some (some (gA u1 17 v1), u1)) else (if v2 = 2 then gd (inb v1 8) (some (some (gA u1 22 v1), u1)) else (if v2 = 3 then gd (inb v1 8) (some (some (gA u1 23 v1), u1)) else (if v2 = 4 then oB (fX8_roomsSeeing 4 v1 u1) fun r2 u2 => some (some r2, u2) else some (none, u1)))))))
set_option maxRecDepth 20000 in
theorem sX11_thing (v1 : Int32) (v2 : Int32) (u : US) : SimQ (Zx Value.int) 1 mX11_thing 9 (fX11_thing v1 v2 u) 0 [some (.ref 0), some (.int v1), some (.int v2)] [] u := by
  unfold fX11_thing
  refine r_aload_n dX11_thing_0 rfl ?_
  refine r_get 0 2 flX11_28 rfl (v := .ref 3) rfl dX11_thing_1 ?_
  refine r_iload_n dX11_thing_4 rfl ?_
  refine c_VI (As := [.int v1]) kvX11_164 rfl (by decide) (okX8_isThing v1 u) rfl (Nat.le_of_ble_eq_true rfl) rfl dX11_thing_5 (fun r1 u1 => ?_)
  refine r_if_ne dX11_thing_8 (tgt := 19) rfl ?_ ?_
  · refine r_iload_n dX11_thing_19 rfl ?_
    refine r_ite (fun hc0 => ?_) (fun hc0 => ?_)
    · refine r_tabIn dX11_thing_20 (off := 36) (by rw [hc0]; decide) (by rw [hc0]; decide) (by rw [hc0]; rfl) (tgt := 56) rfl ?_
      refine r_aload_n dX11_thing_56 rfl ?_
      refine r_get 0 2 flX11_28 rfl (v := .ref 3) rfl dX11_thing_57 ?_
      refine r_get 3 5 flX11_170 rfl (v := .ref 16) rfl dX11_thing_60 ?_
      refine r_iload_n dX11_thing_63 rfl ?_
      refine r_iald 16 rfl dX11_thing_64 ?_
      exact r_ireturnX rfl dX11_thing_65
    refine r_ite (fun hc1 => ?_) (fun hc1 => ?_)
    · refine r_tabIn dX11_thing_20 (off := 46) (by rw [hc1]; decide) (by rw [hc1]; decide) (by rw [hc1]; rfl) (tgt := 66) rfl ?_
      refine r_aload_n dX11_thing_66 rfl ?_
      refine r_get 0 2 flX11_28 rfl (v := .ref 3) rfl dX11_thing_67 ?_
      refine r_get 3 6 flX11_174 rfl (v := .ref 17) rfl dX11_thing_70 ?_
      refine r_iload_n dX11_thing_73 rfl ?_
      refine r_iald 17 rfl dX11_thing_74 ?_
      exact r_ireturnX rfl dX11_thing_75
    refine r_ite (fun hc2 => ?_) (fun hc2 => ?_)
    · refine r_tabIn dX11_thing_20 (off := 56) (by rw [hc2]; decide) (by rw [hc2]; decide) (by rw [hc2]; rfl) (tgt := 76) rfl ?_
      refine r_aload_n dX11_thing_76 rfl ?_
      refine r_get 0 3 flX11_35 rfl (v := .ref 4) rfl dX11_thing_77 ?_
      refine r_get 4 0 flX11_177 rfl (v := .ref 22) rfl dX11_thing_80 ?_
      refine r_iload_n dX11_thing_83 rfl ?_
      refine r_iald 22 rfl dX11_thing_84 ?_
      exact r_ireturnX rfl dX11_thing_85
    refine r_ite (fun hc3 => ?_) (fun hc3 => ?_)
    · refine r_tabIn dX11_thing_20 (off := 66) (by rw [hc3]; decide) (by rw [hc3]; decide) (by rw [hc3]; rfl) (tgt := 86) rfl ?_
      refine r_aload_n dX11_thing_86 rfl ?_
      refine r_get 0 3 flX11_35 rfl (v := .ref 4) rfl dX11_thing_87 ?_
      refine r_get 4 1 flX11_180 rfl (v := .ref 23) rfl dX11_thing_90 ?_
      refine r_iload_n dX11_thing_93 rfl ?_
      refine r_iald 23 rfl dX11_thing_94 ?_
      exact r_ireturnX rfl dX11_thing_95
    refine r_ite (fun hc4 => ?_) (fun hc4 => ?_)
    · refine r_tabIn dX11_thing_20 (off := 76) (by rw [hc4]; decide) (by rw [hc4]; decide) (by rw [hc4]; rfl) (tgt := 96) rfl ?_
      refine r_aload_n dX11_thing_96 rfl ?_
      refine r_get 0 2 flX11_28 rfl (v := .ref 3) rfl dX11_thing_97 ?_
      refine r_aload_n dX11_thing_100 rfl ?_
      refine r_get 0 3 flX11_35 rfl (v := .ref 4) rfl dX11_thing_101 ?_
      refine r_iload_n dX11_thing_104 rfl ?_
      refine c_VI (As := [.ref 4, .int v1]) kvX11_183 rfl (by decide) (okX8_roomsSeeing 4 v1 u1) rfl (Nat.le_of_ble_eq_true rfl) rfl dX11_thing_105 (fun r2 u2 => ?_)
      exact r_ireturnX rfl dX11_thing_108
    have hn0 := ne_int hc0
    have hn1 := ne_int hc1
    have hn2 := ne_int hc2
    have hn3 := ne_int hc3
    have hn4 := ne_int hc4
    rw [show (0 : Int32).toInt = 0 from rfl] at hn0
    rw [show (1 : Int32).toInt = 1 from rfl] at hn1
    rw [show (2 : Int32).toInt = 2 from rfl] at hn2
    rw [show (3 : Int32).toInt = 3 from rfl] at hn3
    rw [show (4 : Int32).toInt = 4 from rfl] at hn4
    refine r_tabOut dX11_thing_20 (by omega) (tgt := 109) rfl ?_
    exact r_throwX rfl (by decide) (Nat.le_of_ble_eq_true rfl) dX11_thing_109 dX11_thing_112 dX11_thing_113 dX11_thing_116
  · exact r_throwX rfl (by decide) (Nat.le_of_ble_eq_true rfl) dX11_thing_11 dX11_thing_14 dX11_thing_15 dX11_thing_18
theorem okX11_thing (v1 : Int32) (v2 : Int32) (u : US) : ∀ r, fX11_thing v1 v2 u = some r → MetX Value.int mX11_thing 9 [.ref 0, .int v1, .int v2] u r :=
  met_ofX (by decide +kernel) (Nat.le_of_ble_eq_true rfl) rfl (sX11_thing v1 v2 u)
