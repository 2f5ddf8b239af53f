def fX11_liveYear_85 (v1 : Int32) (u : US) : Option (US) :=
  (if v1 = 3 then (if (gI u 3 3) ≤ 0 then some u else oB (fX11_draw (gI u 3 3) u) fun r1 u1 => nx (sI u1 6 3 ((gI u 6 3) ||| (1 <<< (r1 &&& 31)))) fun u2 => some u2) else some u)
set_option maxRecDepth 20000 in
theorem sX11_liveYear_85 (v1 : Int32) (u : US) : Sim tV mX11_liveYear 3 (fX11_liveYear_85 v1 u) 85 [some (.ref 0), some (.int v1), none] [] u := by
  unfold fX11_liveYear_85
  refine r_iload_n dX11_liveYear_85 rfl ?_
  refine r_iconst dX11_liveYear_86 (v := 3) rfl ?_
  refine r_icmp_ne dX11_liveYear_87 (tgt := 125) rfl ?_ ?_
  · exact r_return rfl dX11_liveYear_125
  · refine r_aload_n dX11_liveYear_90 rfl ?_
    refine r_get 0 2 flX11_28 rfl (v := .ref 3) rfl dX11_liveYear_91 ?_
    refine r_get 3 3 flX11_357 rfl (v := .int (gI u 3 3)) rfl dX11_liveYear_94 ?_
    refine r_if_le dX11_liveYear_97 (tgt := 125) rfl ?_ ?_
    · exact r_return rfl dX11_liveYear_125
    · refine r_aload_n dX11_liveYear_100 rfl ?_
      refine r_get 0 5 flX11_42 rfl (v := .ref 6) rfl dX11_liveYear_101 ?_
      refine r_dup dX11_liveYear_104 rfl ?_
      refine r_get 6 3 flX11_259 rfl (v := .int (gI u 6 3)) rfl dX11_liveYear_105 ?_
      refine r_iconst dX11_liveYear_108 (v := 1) rfl ?_
      refine r_aload_n dX11_liveYear_109 rfl ?_
      refine r_aload_n dX11_liveYear_110 rfl ?_
      refine r_get 0 2 flX11_28 rfl (v := .ref 3) rfl dX11_liveYear_111 ?_
      refine r_get 3 3 flX11_357 rfl (v := .int (gI u 3 3)) rfl dX11_liveYear_114 ?_
      refine c_VI (As := [.int (gI u 3 3)]) kvX11_459 rfl (by decide) (okX11_draw (gI u 3 3) u) rfl (Nat.le_of_ble_eq_true rfl) rfl dX11_liveYear_117 (fun r1 u1 => ?_)
      refine r_ishl dX11_liveYear_120 ?_
      refine r_ior dX11_liveYear_121 ?_
      refine r_put 6 3 fpX11_259 rfl rfl dX11_liveYear_122 (r_nx (fun u2 => ?_))
      exact r_return rfl dX11_liveYear_125
def fX11_liveYear (u : US) : Option (US) :=
  oB (fX11_draw 4 u) fun r1 u1 => (if (2 : Int32) ≤ r1 then (if r1 = 2 then (if (gI u1 3 3) ≤ 0 then fX11_liveYear_85 r1 u1 else (if (gI u1 3 4) ≤ 0 then fX11_liveYear_85 r1 u1 else oB (fX11_draw (gI u1 3 3) u1) fun r2 u2 => oB (fX11_draw (gI u2 3 4) u2) fun r3 u3 => gd (inb r2 8) (nx (sA u3 30 r2 r3) fun u4 => some u4))) else fX11_liveYear_85 r1 u1) else oV (fX8_walk 6 u1) fun u5 => some u5)
set_option maxRecDepth 20000 in
theorem sX11_liveYear (u : US) : Sim tV mX11_liveYear 3 (fX11_liveYear u) 0 [some (.ref 0), none, none] [] u := by
  unfold fX11_liveYear
  refine r_aload_n dX11_liveYear_0 rfl ?_
  refine r_iconst dX11_liveYear_1 (v := 4) rfl ?_
  refine c_VI (As := [.int 4]) kvX11_459 rfl (by decide) (okX11_draw 4 u) rfl (Nat.le_of_ble_eq_true rfl) rfl dX11_liveYear_2 (fun r1 u1 => ?_)
  refine r_istore_n dX11_liveYear_5 (Nat.le_of_ble_eq_true rfl) (ls2 := [some (.ref 0), some (.int r1), none]) rfl ?_
  refine r_iload_n dX11_liveYear_6 rfl ?_
  refine r_iconst dX11_liveYear_7 (v := 2) rfl ?_
  refine r_icmp_ge dX11_liveYear_8 (tgt := 25) rfl ?_ ?_
  · refine r_iload_n dX11_liveYear_25 rfl ?_
    refine r_iconst dX11_liveYear_26 (v := 2) rfl ?_
    refine r_icmp_ne dX11_liveYear_27 (tgt := 85) rfl ?_ ?_
    · exact sX11_liveYear_85 r1 u1
    · refine r_aload_n dX11_liveYear_30 rfl ?_
      refine r_get 0 2 flX11_28 rfl (v := .ref 3) rfl dX11_liveYear_31 ?_
      refine r_get 3 3 flX11_357 rfl (v := .int (gI u1 3 3)) rfl dX11_liveYear_34 ?_
      refine r_if_le dX11_liveYear_37 (tgt := 85) rfl ?_ ?_
      · exact sX11_liveYear_85 r1 u1
      · refine r_aload_n dX11_liveYear_40 rfl ?_
        refine r_get 0 2 flX11_28 rfl (v := .ref 3) rfl dX11_liveYear_41 ?_
        refine r_get 3 4 flX11_267 rfl (v := .int (gI u1 3 4)) rfl dX11_liveYear_44 ?_
        refine r_if_le dX11_liveYear_47 (tgt := 85) rfl ?_ ?_
        · exact sX11_liveYear_85 r1 u1
        · refine r_aload_n dX11_liveYear_50 rfl ?_
          refine r_aload_n dX11_liveYear_51 rfl ?_
          refine r_get 0 2 flX11_28 rfl (v := .ref 3) rfl dX11_liveYear_52 ?_
          refine r_get 3 3 flX11_357 rfl (v := .int (gI u1 3 3)) rfl dX11_liveYear_55 ?_
          refine c_VI (As := [.int (gI u1 3 3)]) kvX11_459 rfl (by decide) (okX11_draw (gI u1 3 3) u1) rfl (Nat.le_of_ble_eq_true rfl) rfl dX11_liveYear_58 (fun r2 u2 => ?_)
          refine r_istore_n dX11_liveYear_61 (Nat.le_of_ble_eq_true rfl) (ls2 := [some (.ref 0), some (.int r1), some (.int r2)]) rfl ?_
          refine r_aload_n dX11_liveYear_62 rfl ?_
          refine r_get 0 5 flX11_42 rfl (v := .ref 6) rfl dX11_liveYear_63 ?_
          refine r_get 6 2 flX11_196 rfl (v := .ref 30) rfl dX11_liveYear_66 ?_
          refine r_iload_n dX11_liveYear_69 rfl ?_
          refine r_aload_n dX11_liveYear_70 rfl ?_
          refine r_aload_n dX11_liveYear_71 rfl ?_
          refine r_get 0 2 flX11_28 rfl (v := .ref 3) rfl dX11_liveYear_72 ?_
          refine r_get 3 4 flX11_267 rfl (v := .int (gI u2 3 4)) rfl dX11_liveYear_75 ?_
          refine c_VI (As := [.int (gI u2 3 4)]) kvX11_459 rfl (by decide) (okX11_draw (gI u2 3 4) u2) rfl (Nat.le_of_ble_eq_true rfl) rfl dX11_liveYear_78 (fun r3 u3 => ?_)
          refine r_iast 30 rfl dX11_liveYear_81 (r_nx (fun u4 => ?_))
          refine r_goto dX11_liveYear_82 (tgt := 125) rfl ?_
          exact r_return rfl dX11_liveYear_125
  · refine r_aload_n dX11_liveYear_11 rfl ?_
    refine r_get 0 2 flX11_28 rfl (v := .ref 3) rfl dX11_liveYear_12 ?_
    refine r_aload_n dX11_liveYear_15 rfl ?_
    refine r_get 0 5 flX11_42 rfl (v := .ref 6) rfl dX11_liveYear_16 ?_
    refine c_VV (As := [.ref 6]) kvX11_273 rfl (by decide) (okX8_walk 6 u1) rfl (Nat.le_of_ble_eq_true rfl) rfl dX11_liveYear_19 (fun u5 => ?_)
    refine r_goto dX11_liveYear_22 (tgt := 125) rfl ?_
    exact r_return rfl dX11_liveYear_125
theorem okX11_liveYear (u : US) : ∀ r, fX11_liveYear u = some r → MetC mX11_liveYear 3 [.ref 0] u (tV r) :=
  met_of (by decide +kernel) (Nat.le_of_ble_eq_true rfl) rfl (sX11_liveYear u)
def fX8_thingsOn_5 (v1 : Nat) (v2 : Int32) : Nat → Int32 → Int32 → US → Option (Int32 × US)
  | 0, _, _, _ => none
  | n + 1, v3, v4, u => (if (gI u 3 2) ≤ v4 then some (v3, u) else gd (inb v4 (ln (fpt v1 0))) ((if (gA u (fpt v1 0) v4) = v2 then fX8_thingsOn_5 v1 v2 n (v3 ||| (1 <<< (v4 &&& 31))) (v4 + 1) u else fX8_thingsOn_5 v1 v2 n v3 (v4 + 1) u)))
set_option maxRecDepth 20000 in
theorem sX8_thingsOn_5 (v1 : Nat) (v2 : Int32) (h1 : isMom v1 = true) : ∀ (n : Nat) (v3 : Int32) (v4 : Int32) (u : US), Sim tI mX8_thingsOn 0 (fX8_thingsOn_5 v1 v2 n v3 v4 u) 5 [some (.ref 3), some (.ref v1), some (.int v2), some (.int v3), some (.int v4)] [] u := by
  intro n
  induction n with
  | zero =>
    intro v3 v4 u
    rw [fX8_thingsOn_5.eq_1]
    exact r_none
  | succ n ih =>
    intro v3 v4 u
    rw [fX8_thingsOn_5.eq_2]
    refine r_iload dX8_thingsOn_5 rfl ?_
    refine r_aload_n dX8_thingsOn_7 rfl ?_
    refine r_get 3 2 flX8_44 rfl (v := .int (gI u 3 2)) rfl dX8_thingsOn_8 ?_
    refine r_icmp_ge dX8_thingsOn_11 (tgt := 38) rfl ?_ ?_
    · refine r_iload_n dX8_thingsOn_38 rfl ?_
      exact r_ireturn rfl dX8_thingsOn_39
    · refine r_aload_n dX8_thingsOn_14 rfl ?_
      refine r_get v1 0 flX8_73 (okO_mom h1) (v := .ref (fpt v1 0)) (slA_r (okO_mom h1) rfl rfl) dX8_thingsOn_15 ?_
      refine r_iload dX8_thingsOn_18 rfl ?_
      refine r_iald (fpt v1 0) (okA_mom h1 0 rfl) dX8_thingsOn_20 ?_
      refine r_iload_n dX8_thingsOn_21 rfl ?_
      refine r_icmp_ne dX8_thingsOn_22 (tgt := 32) rfl ?_ ?_
      · refine r_iinc dX8_thingsOn_32 (Nat.le_of_ble_eq_true rfl) rfl (v := v4 + 1) rfl (ls2 := [some (.ref 3), some (.ref v1), some (.int v2), some (.int v3), some (.int (v4 + 1))]) rfl ?_
        refine r_goto dX8_thingsOn_35 (tgt := 5) rfl ?_
        exact ih v3 (v4 + 1) u
      · refine r_iload_n dX8_thingsOn_25 rfl ?_
        refine r_iconst dX8_thingsOn_26 (v := 1) rfl ?_
        refine r_iload dX8_thingsOn_27 rfl ?_
        refine r_ishl dX8_thingsOn_29 ?_
        refine r_ior dX8_thingsOn_30 ?_
        refine r_istore_n dX8_thingsOn_31 (Nat.le_of_ble_eq_true rfl) (ls2 := [some (.ref 3), some (.ref v1), some (.int v2), some (.int (v3 ||| (1 <<< (v4 &&& 31)))), some (.int v4)]) rfl ?_
        refine r_iinc dX8_thingsOn_32 (Nat.le_of_ble_eq_true rfl) rfl (v := v4 + 1) rfl (ls2 := [some (.ref 3), some (.ref v1), some (.int v2), some (.int (v3 ||| (1 <<< (v4 &&& 31)))), some (.int (v4 + 1))]) rfl ?_
        refine r_goto dX8_thingsOn_35 (tgt := 5) rfl ?_
        exact ih (v3 ||| (1 <<< (v4 &&& 31))) (v4 + 1) u
def fX8_thingsOn (v1 : Nat) (v2 : Int32) (u : US) : Option (Int32 × US) :=
  gd (isMom v1) (fX8_thingsOn_5 v1 v2 FU 0 0 u)
set_option maxRecDepth 20000 in
theorem sX8_thingsOn (v1 : Nat) (v2 : Int32) (u : US) : Sim tI mX8_thingsOn 0 (fX8_thingsOn v1 v2 u) 0 [some (.ref 3), some (.ref v1), some (.int v2), none, none] [] u := by
  unfold fX8_thingsOn
  refine r_gd (fun h1 => ?_)
  refine r_iconst dX8_thingsOn_0 (v := 0) rfl ?_
  refine r_istore_n dX8_thingsOn_1 (Nat.le_of_ble_eq_true rfl) (ls2 := [some (.ref 3), some (.ref v1), some (.int v2), some (.int 0), none]) rfl ?_
  refine r_iconst dX8_thingsOn_2 (v := 0) rfl ?_
  refine r_istore dX8_thingsOn_3 (Nat.le_of_ble_eq_true rfl) (ls2 := [some (.ref 3), some (.ref v1), some (.int v2), some (.int 0), some (.int 0)]) rfl ?_
  exact sX8_thingsOn_5 v1 v2 h1 FU 0 0 u
theorem okX8_thingsOn (v1 : Nat) (v2 : Int32) (u : US) : ∀ r, fX8_thingsOn v1 v2 u = some r → MetC mX8_thingsOn 0 [.ref 3, .ref v1, .int v2] u (tI r) :=
  met_of (by decide +kernel) (Nat.le_of_ble_eq_true rfl) rfl (sX8_thingsOn v1 v2 u)
def fX11_tellMeeting_12 (v1 : Int32) : Nat → Int32 → US → Option (Int32 × US)
  | 0, _, _ => none
  | n + 1, v2, u => oB (fX8_fields u) fun r1 u1 => (if r1 ≤ v2 then some (0, u1) else oB (fX8_thingsOn 6 v2 u1) fun r2 u2 => oB (fJ6_bitCount_0f7a4 (v1 &&& r2) u2) fun r3 u3 => (if r3 < 2 then fX11_tellMeeting_12 v1 n (v2 + 1) u3 else oV (fX2_tellTwo ((v2 : Int32).toInt64) ((v1 &&& r2 : Int32).toInt64) u3) fun u4 => some (1, u4)))
set_option maxRecDepth 20000 in
theorem sX11_tellMeeting_12 (v1 : Int32) : ∀ (n : Nat) (v2 : Int32) (u : US), Sim tI mX11_tellMeeting 2 (fX11_tellMeeting_12 v1 n v2 u) 12 [some (.ref 0), some (.int v1), some (.int v2), none] [] u := by
  intro n
  induction n with
  | zero =>
    intro v2 u
    rw [fX11_tellMeeting_12.eq_1]
    exact r_none
  | succ n ih =>
    intro v2 u
    rw [fX11_tellMeeting_12.eq_2]
    refine r_iload_n dX11_tellMeeting_12 rfl ?_
    refine r_aload_n dX11_tellMeeting_13 rfl ?_
    refine r_get 0 2 flX11_28 rfl (v := .ref 3) rfl dX11_tellMeeting_14 ?_
    refine c_VI (As := []) kvX11_336 rfl (by decide) (okX8_fields u) rfl (Nat.le_of_ble_eq_true rfl) rfl dX11_tellMeeting_17 (fun r1 u1 => ?_)
    refine r_icmp_ge dX11_tellMeeting_20 (tgt := 65) rfl ?_ ?_
    · refine r_iconst dX11_tellMeeting_65 (v := 0) rfl ?_
      exact r_zreturn0 rfl dX11_tellMeeting_66
    · refine r_iload_n dX11_tellMeeting_23 rfl ?_
      refine r_aload_n dX11_tellMeeting_24 rfl ?_
      refine r_get 0 2 flX11_28 rfl (v := .ref 3) rfl dX11_tellMeeting_25 ?_
      refine r_aload_n dX11_tellMeeting_28 rfl ?_
      refine r_get 0 5 flX11_42 rfl (v := .ref 6) rfl dX11_tellMeeting_29 ?_
      refine r_iload_n dX11_tellMeeting_32 rfl ?_
      refine c_VI (As := [.ref 6, .int v2]) kvX11_339 rfl (by decide) (okX8_thingsOn 6 v2 u1) rfl (Nat.le_of_ble_eq_true rfl) rfl dX11_tellMeeting_33 (fun r2 u2 => ?_)
      refine r_iand dX11_tellMeeting_36 ?_
      refine r_istore_n dX11_tellMeeting_37 (Nat.le_of_ble_eq_true rfl) (ls2 := [some (.ref 0), some (.int v1), some (.int v2), some (.int (v1 &&& r2))]) rfl ?_
      refine r_iload_n dX11_tellMeeting_38 rfl ?_
      refine c_SI (As := [.int (v1 &&& r2)]) ksX11_254 (by decide) (okJ6_bitCount_0f7a4 (v1 &&& r2) u2) rfl (Nat.le_of_ble_eq_true rfl) rfl dX11_tellMeeting_39 (fun r3 u3 => ?_)
      refine r_iconst dX11_tellMeeting_42 (v := 2) rfl ?_
      refine r_icmp_lt dX11_tellMeeting_43 (tgt := 59) rfl ?_ ?_
      · refine r_iinc dX11_tellMeeting_59 (Nat.le_of_ble_eq_true rfl) rfl (v := v2 + 1) rfl (ls2 := [some (.ref 0), some (.int v1), some (.int (v2 + 1)), some (.int (v1 &&& r2))]) rfl ?_
        refine r_goto dX11_tellMeeting_62 (tgt := 12) rfl ?_
        refine r_mk [true, true, true, false] (ls2 := [some (.ref 0), some (.int v1), some (.int (v2 + 1)), none]) rfl ?_
        exact ih (v2 + 1) u3
      · refine r_aload_n dX11_tellMeeting_46 rfl ?_
        refine r_get 0 7 flX11_55 rfl (v := .ref 8) rfl dX11_tellMeeting_47 ?_
        refine r_iload_n dX11_tellMeeting_50 rfl ?_
        refine r_i2l dX11_tellMeeting_51 ?_
        refine r_iload_n dX11_tellMeeting_52 rfl ?_
        refine r_i2l dX11_tellMeeting_53 ?_
        refine c_VV (As := [.long ((v2 : Int32).toInt64), .long ((v1 &&& r2 : Int32).toInt64)]) kvX11_298 rfl (by decide) (okX2_tellTwo ((v2 : Int32).toInt64) ((v1 &&& r2 : Int32).toInt64) u3) rfl (Nat.le_of_ble_eq_true rfl) rfl dX11_tellMeeting_54 (fun u4 => ?_)
        refine r_iconst dX11_tellMeeting_57 (v := 1) rfl ?_
        exact r_zreturn1 rfl dX11_tellMeeting_58
def fX11_tellMeeting (v1 : Int32) (u : US) : Option (Int32 × US) :=
  oB (fJ6_bitCount_0f7a4 v1 u) fun r1 u1 => (if (2 : Int32) ≤ r1 then fX11_tellMeeting_12 v1 FU 0 u1 else some (0, u1))
set_option maxRecDepth 20000 in
theorem sX11_tellMeeting (v1 : Int32) (u : US) : Sim tI mX11_tellMeeting 2 (fX11_tellMeeting v1 u) 0 [some (.ref 0), some (.int v1), none, none] [] u := by
  unfold fX11_tellMeeting
  refine r_iload_n dX11_tellMeeting_0 rfl ?_
  refine c_SI (As := [.int v1]) ksX11_254 (by decide) (okJ6_bitCount_0f7a4 v1 u) rfl (Nat.le_of_ble_eq_true rfl) rfl dX11_tellMeeting_1 (fun r1 u1 => ?_)
  refine r_iconst dX11_tellMeeting_4 (v := 2) rfl ?_
  refine r_icmp_ge dX11_tellMeeting_5 (tgt := 10) rfl ?_ ?_
  · refine r_iconst dX11_tellMeeting_10 (v := 0) rfl ?_
    refine r_istore_n dX11_tellMeeting_11 (Nat.le_of_ble_eq_true rfl) (ls2 := [some (.ref 0), some (.int v1), some (.int 0), none]) rfl ?_
    exact sX11_tellMeeting_12 v1 FU 0 u1
  · refine r_iconst dX11_tellMeeting_8 (v := 0) rfl ?_
    exact r_zreturn0 rfl dX11_tellMeeting_9
theorem okX11_tellMeeting (v1 : Int32) (u : US) : ∀ r, fX11_tellMeeting v1 u = some r → MetC mX11_tellMeeting 2 [.ref 0, .int v1] u (tI r) :=
  met_of (by decide +kernel) (Nat.le_of_ble_eq_true rfl) rfl (sX11_tellMeeting v1 u)
def fX11_meets_26 (v1 : Int32) : Nat → Int32 → US → Option (Int32 × US)
  | 0, _, _ => none
  | n + 1, v2, u => (if (99 : Int32) < v2 then some ((-2), u) else oB (fX8_seenFrom 6 v1 u) fun r1 u1 => oB (fX11_tellMeeting r1 u1) fun r2 u2 => (if r2 = 0 then oV (fX8_walk 6 u2) fun u3 => fX11_meets_26 v1 n (v2 + 1) u3 else some (v2, u2)))
set_option maxRecDepth 20000 in
theorem sX11_meets_26 (v1 : Int32) : ∀ (n : Nat) (v2 : Int32) (u : US), Sim tI mX11_meets 9 (fX11_meets_26 v1 n v2 u) 26 [some (.ref 0), some (.int v1), some (.int v2)] [] u := by
  intro n
  induction n with
  | zero =>
    intro v2 u
    rw [fX11_meets_26.eq_1]
    exact r_none
  | succ n ih =>
    intro v2 u
    rw [fX11_meets_26.eq_2]
    refine r_iload_n dX11_meets_26 rfl ?_
    refine r_bipush dX11_meets_27 (v := 99) rfl ?_
    refine r_icmp_gt dX11_meets_29 (tgt := 70) rfl ?_ ?_
    · refine r_bipush dX11_meets_70 (v := -2) rfl ?_
      exact r_ireturn rfl dX11_meets_72
    · refine r_aload_n dX11_meets_32 rfl ?_
      refine r_aload_n dX11_meets_33 rfl ?_
      refine r_get 0 2 flX11_28 rfl (v := .ref 3) rfl dX11_meets_34 ?_
      refine r_aload_n dX11_meets_37 rfl ?_
      refine r_get 0 5 flX11_42 rfl (v := .ref 6) rfl dX11_meets_38 ?_
      refine r_iload_n dX11_meets_41 rfl ?_
      refine c_VI (As := [.ref 6, .int v1]) kvX11_221 rfl (by decide) (okX8_seenFrom 6 v1 u) rfl (Nat.le_of_ble_eq_true rfl) rfl dX11_meets_42 (fun r1 u1 => ?_)
      refine c_VI (As := [.int r1]) kvX11_333 rfl (by decide) (okX11_tellMeeting r1 u1) rfl (Nat.le_of_ble_eq_true rfl) rfl dX11_meets_45 (fun r2 u2 => ?_)
      refine r_if_eq dX11_meets_48 (tgt := 53) rfl ?_ ?_
      · refine r_aload_n dX11_meets_53 rfl ?_
        refine r_get 0 2 flX11_28 rfl (v := .ref 3) rfl dX11_meets_54 ?_
        refine r_aload_n dX11_meets_57 rfl ?_
        refine r_get 0 5 flX11_42 rfl (v := .ref 6) rfl dX11_meets_58 ?_
        refine c_VV (As := [.ref 6]) kvX11_273 rfl (by decide) (okX8_walk 6 u2) rfl (Nat.le_of_ble_eq_true rfl) rfl dX11_meets_61 (fun u3 => ?_)
        refine r_iinc dX11_meets_64 (Nat.le_of_ble_eq_true rfl) rfl (v := v2 + 1) rfl (ls2 := [some (.ref 0), some (.int v1), some (.int (v2 + 1))]) rfl ?_
        refine r_goto dX11_meets_67 (tgt := 26) rfl ?_
        exact ih (v2 + 1) u3
      · refine r_iload_n dX11_meets_51 rfl ?_
        exact r_ireturn rfl dX11_meets_52
def fX11_meets (v1 : Int32) (u : US) : Option (Int32 × US) :=
  oB (fX8_isRoom v1 u) fun r1 u1 => (if r1 = 0 then some ((-1), u1) else oV (fX1_copy 6 4 u1) fun u2 => fX11_meets_26 v1 FU 0 u2)
set_option maxRecDepth 20000 in
theorem sX11_meets (v1 : Int32) (u : US) : Sim tI mX11_meets 9 (fX11_meets v1 u) 0 [some (.ref 0), some (.int v1), none] [] u := by
  unfold fX11_meets
  refine r_aload_n dX11_meets_0 rfl ?_
  refine r_get 0 2 flX11_28 rfl (v := .ref 3) rfl dX11_meets_1 ?_
  refine r_iload_n dX11_meets_4 rfl ?_
  refine c_VI (As := [.int v1]) kvX11_209 rfl (by decide) (okX8_isRoom v1 u) rfl (Nat.le_of_ble_eq_true rfl) rfl dX11_meets_5 (fun r1 u1 => ?_)
  refine r_if_ne dX11_meets_8 (tgt := 13) rfl ?_ ?_
  · refine r_aload_n dX11_meets_13 rfl ?_
    refine r_get 0 5 flX11_42 rfl (v := .ref 6) rfl dX11_meets_14 ?_
    refine r_aload_n dX11_meets_17 rfl ?_
    refine r_get 0 3 flX11_35 rfl (v := .ref 4) rfl dX11_meets_18 ?_
    refine c_VV (As := [.ref 4]) kvX11_231 rfl (by decide) (okX1_copy 6 4 u1) rfl (Nat.le_of_ble_eq_true rfl) rfl dX11_meets_21 (fun u2 => ?_)
    refine r_iconst dX11_meets_24 (v := 0) rfl ?_
    refine r_istore_n dX11_meets_25 (Nat.le_of_ble_eq_true rfl) (ls2 := [some (.ref 0), some (.int v1), some (.int 0)]) rfl ?_
    exact sX11_meets_26 v1 FU 0 u2
  · refine r_iconst dX11_meets_11 (v := -1) rfl ?_
    exact r_ireturn rfl dX11_meets_12
theorem okX11_meets (v1 : Int32) (u : US) : ∀ r, fX11_meets v1 u = some r → MetC mX11_meets 9 [.ref 0, .int v1] u (tI r) :=
  met_of (by decide +kernel) (Nat.le_of_ble_eq_true rfl) rfl (sX11_meets v1 u)
def fX11_next_24 : Nat → Int32 → Int32 → Int32 → Int32 → US → Option (Int32 × US)
  | 0, _, _, _, _, _ => none
  | n + 1, v1, v2, v3, v4, u => (if (80 : Int32) ≤ v4 then oV (fX2_tellOne ((v3 : Int32).toInt64) u) fun u1 => some (v2, u1) else if (10 : Int32) = 0 then none else if (10 : Int32) = 0 then none else oB (fX10_fittingIfSeen (v4 / 10) (v4 - v4 / 10 * 10) u) fun r2 u2 => (if v3 ≤ (if r2 < (v1 - r2) then v1 - r2 else r2) then fX11_next_24 n v1 v2 v3 (v4 + 1) u2 else fX11_next_24 n v1 v4 (if r2 < (v1 - r2) then v1 - r2 else r2) (v4 + 1) u2))
set_option maxRecDepth 20000 in
theorem sX11_next_24 : ∀ (n : Nat) (v1 : Int32) (v2 : Int32) (v3 : Int32) (v4 : Int32) (u : US), Sim tI mX11_next 6 (fX11_next_24 n v1 v2 v3 v4 u) 24 [some (.ref 0), some (.int v1), some (.int v2), some (.int v3), some (.int v4), none, none] [] u := by
  intro n
  induction n with
  | zero =>
    intro v1 v2 v3 v4 u
    rw [fX11_next_24.eq_1]
    exact r_none
  | succ n ih =>
    intro v1 v2 v3 v4 u
    rw [fX11_next_24.eq_2]
    refine r_iload dX11_next_24 rfl ?_
    refine r_bipush dX11_next_26 (v := 80) rfl ?_
    refine r_icmp_ge dX11_next_28 (tgt := 79) rfl ?_ ?_
    · refine r_aload_n dX11_next_79 rfl ?_
      refine r_get 0 7 flX11_55 rfl (v := .ref 8) rfl dX11_next_80 ?_
      refine r_iload_n dX11_next_83 rfl ?_
      refine r_i2l dX11_next_84 ?_
      refine c_VV (As := [.long ((v3 : Int32).toInt64)]) kvX11_330 rfl (by decide) (okX2_tellOne ((v3 : Int32).toInt64) u) rfl (Nat.le_of_ble_eq_true rfl) rfl dX11_next_85 (fun u1 => ?_)
      refine r_iload_n dX11_next_88 rfl ?_
      exact r_ireturn rfl dX11_next_89
    · refine r_aload_n dX11_next_31 rfl ?_
      refine r_get 0 10 flX11_78 rfl (v := .ref 11) rfl dX11_next_32 ?_
      refine r_iload dX11_next_35 rfl ?_
      refine r_bipush dX11_next_37 (v := 10) rfl ?_
      refine r_idiv dX11_next_39 ?_
      refine r_iload dX11_next_40 rfl ?_
      refine r_bipush dX11_next_42 (v := 10) rfl ?_
      refine r_irem dX11_next_44 ?_
      refine c_VI (As := [.int (v4 / 10), .int (v4 - v4 / 10 * 10)]) kvX11_401 rfl (by decide) (okX10_fittingIfSeen (v4 / 10) (v4 - v4 / 10 * 10) u) rfl (Nat.le_of_ble_eq_true rfl) rfl dX11_next_45 (fun r2 u2 => ?_)
      refine r_istore dX11_next_48 (Nat.le_of_ble_eq_true rfl) (ls2 := [some (.ref 0), some (.int v1), some (.int v2), some (.int v3), some (.int v4), some (.int r2), none]) rfl ?_
      refine r_iload dX11_next_50 rfl ?_
      refine r_iload_n dX11_next_52 rfl ?_
      refine r_iload dX11_next_53 rfl ?_
      refine r_isub dX11_next_55 ?_
      refine r_max kmX11_404 ktMath_max knMath kcMath_max (by decide) (Nat.le_of_ble_eq_true rfl) dX11_next_56 ?_
      refine r_istore dX11_next_59 (Nat.le_of_ble_eq_true rfl) (ls2 := [some (.ref 0), some (.int v1), some (.int v2), some (.int v3), some (.int v4), some (.int r2), some (.int (if r2 < (v1 - r2) then v1 - r2 else r2))]) rfl ?_
      refine r_iload dX11_next_61 rfl ?_
      refine r_iload_n dX11_next_63 rfl ?_
      refine r_icmp_ge dX11_next_64 (tgt := 73) rfl ?_ ?_
      · refine r_iinc dX11_next_73 (Nat.le_of_ble_eq_true rfl) rfl (v := v4 + 1) rfl (ls2 := [some (.ref 0), some (.int v1), some (.int v2), some (.int v3), some (.int (v4 + 1)), some (.int r2), some (.int (if r2 < (v1 - r2) then v1 - r2 else r2))]) rfl ?_
        refine r_goto dX11_next_76 (tgt := 24) rfl ?_
        refine r_mk [true, true, true, true, true, false, false] (ls2 := [some (.ref 0), some (.int v1), some (.int v2), some (.int v3), some (.int (v4 + 1)), none, none]) rfl ?_
        exact ih v1 v2 v3 (v4 + 1) u2
      · refine r_iload dX11_next_67 rfl ?_
        refine r_istore_n dX11_next_69 (Nat.le_of_ble_eq_true rfl) (ls2 := [some (.ref 0), some (.int v1), some (.int v4), some (.int v3), some (.int v4), some (.int r2), some (.int (if r2 < (v1 - r2) then v1 - r2 else r2))]) rfl ?_
        refine r_iload dX11_next_70 rfl ?_
        refine r_istore_n dX11_next_72 (Nat.le_of_ble_eq_true rfl) (ls2 := [some (.ref 0), some (.int v1), some (.int v4), some (.int (if r2 < (v1 - r2) then v1 - r2 else r2)), some (.int v4), some (.int r2), some (.int (if r2 < (v1 - r2) then v1 - r2 else r2))]) rfl ?_
        refine r_iinc dX11_next_73 (Nat.le_of_ble_eq_true rfl) rfl (v := v4 + 1) rfl (ls2 := [some (.ref 0), some (.int v1), some (.int v4), some (.int (if r2 < (v1 - r2) then v1 - r2 else r2)), some (.int (v4 + 1)), some (.int r2), some (.int (if r2 < (v1 - r2) then v1 - r2 else r2))]) rfl ?_
        refine r_goto dX11_next_76 (tgt := 24) rfl ?_
        refine r_mk [true, true, true, true, true, false, false] (ls2 := [some (.ref 0), some (.int v1), some (.int v4), some (.int (if r2 < (v1 - r2) then v1 - r2 else r2)), some (.int (v4 + 1)), none, none]) rfl ?_
        exact ih v1 v4 (if r2 < (v1 - r2) then v1 - r2 else r2) (v4 + 1) u2
def fX11_next (u : US) : Option (Int32 × US) :=
  oB (fX10_weigh u) fun r1 u1 => (if r1 = 0 then some ((-2), u1) else fX11_next_24 FU r1 0 (r1 + 1) 0 u1)
set_option maxRecDepth 20000 in
theorem sX11_next (u : US) : Sim tI mX11_next 6 (fX11_next u) 0 [some (.ref 0), none, none, none, none, none, none] [] u := by
  unfold fX11_next
  refine r_aload_n dX11_next_0 rfl ?_
  refine r_get 0 10 flX11_78 rfl (v := .ref 11) rfl dX11_next_1 ?_
  refine c_VI (As := []) kvX11_392 rfl (by decide) (okX10_weigh u) rfl (Nat.le_of_ble_eq_true rfl) rfl dX11_next_4 (fun r1 u1 => ?_)
  refine r_istore_n dX11_next_7 (Nat.le_of_ble_eq_true rfl) (ls2 := [some (.ref 0), some (.int r1), none, none, none, none, none]) rfl ?_
  refine r_iload_n dX11_next_8 rfl ?_
  refine r_if_ne dX11_next_9 (tgt := 15) rfl ?_ ?_
  · refine r_iconst dX11_next_15 (v := 0) rfl ?_
    refine r_istore_n dX11_next_16 (Nat.le_of_ble_eq_true rfl) (ls2 := [some (.ref 0), some (.int r1), some (.int 0), none, none, none, none]) rfl ?_
    refine r_iload_n dX11_next_17 rfl ?_
    refine r_iconst dX11_next_18 (v := 1) rfl ?_
    refine r_iadd dX11_next_19 ?_
    refine r_istore_n dX11_next_20 (Nat.le_of_ble_eq_true rfl) (ls2 := [some (.ref 0), some (.int r1), some (.int 0), some (.int (r1 + 1)), none, none, none]) rfl ?_
    refine r_iconst dX11_next_21 (v := 0) rfl ?_
    refine r_istore dX11_next_22 (Nat.le_of_ble_eq_true rfl) (ls2 := [some (.ref 0), some (.int r1), some (.int 0), some (.int (r1 + 1)), some (.int 0), none, none]) rfl ?_
    exact sX11_next_24 FU r1 0 (r1 + 1) 0 u1
  · refine r_bipush dX11_next_12 (v := -2) rfl ?_
    exact r_ireturn rfl dX11_next_14
theorem okX11_next (u : US) : ∀ r, fX11_next u = some r → MetC mX11_next 6 [.ref 0] u (tI r) :=
  met_of (by decide +kernel) (Nat.le_of_ble_eq_true rfl) rfl (sX11_next u)
def fX8_readPanes_71 (v2 : Nat) (v3 : Int32) (s1 : Int32) (u : US) : Option (Int32 × US) :=
  oB (fX5_demand s1 u) fun r1 u1 => oB (fX5_answer (v3 - (gI u1 3 3)) u1) fun r2 u2 => nx (sI u2 3 3 ((gI u2 3 3) + (if (0 : Int32) < r2 then r2 else 0))) fun u3 => some (r2, u3)
set_option maxRecDepth 20000 in
theorem sX8_readPanes_71 (v2 : Nat) (h2 : isMom v2 = true) (v3 : Int32) (s1 : Int32) (u : US) : Sim tI mX8_readPanes 5 (fX8_readPanes_71 v2 v3 s1 u) 71 [some (.ref 3), some (.ref 2), some (.ref v2), some (.int v3), none, none] [.int s1, .ref 2] u := by
  unfold fX8_readPanes_71
  refine c_VI (As := [.int s1]) kvX8_91 rfl (by decide) (okX5_demand s1 u) rfl (Nat.le_of_ble_eq_true rfl) rfl dX8_readPanes_71 (fun r1 u1 => ?_)
  refine r_pop dX8_readPanes_74 rfl ?_
  refine r_aload_n dX8_readPanes_75 rfl ?_
  refine r_iload_n dX8_readPanes_76 rfl ?_
  refine r_aload_n dX8_readPanes_77 rfl ?_
  refine r_get 3 3 flX8_47 rfl (v := .int (gI u1 3 3)) rfl dX8_readPanes_78 ?_
  refine r_isub dX8_readPanes_81 ?_
  refine c_VI (As := [.int (v3 - (gI u1 3 3))]) kvX8_95 rfl (by decide) (okX5_answer (v3 - (gI u1 3 3)) u1) rfl (Nat.le_of_ble_eq_true rfl) rfl dX8_readPanes_82 (fun r2 u2 => ?_)
  refine r_istore dX8_readPanes_85 (Nat.le_of_ble_eq_true rfl) (ls2 := [some (.ref 3), some (.ref 2), some (.ref v2), some (.int v3), none, some (.int r2)]) rfl ?_
  refine r_aload_n dX8_readPanes_87 rfl ?_
  refine r_dup dX8_readPanes_88 rfl ?_
  refine r_get 3 3 flX8_47 rfl (v := .int (gI u2 3 3)) rfl dX8_readPanes_89 ?_
  refine r_iconst dX8_readPanes_92 (v := 0) rfl ?_
  refine r_iload dX8_readPanes_93 rfl ?_
  refine r_max kmX8_98 ktMath_max knMath kcMath_max (by decide) (Nat.le_of_ble_eq_true rfl) dX8_readPanes_95 ?_
  refine r_iadd dX8_readPanes_98 ?_
  refine r_put 3 3 fpX8_47 rfl rfl dX8_readPanes_99 (r_nx (fun u3 => ?_))
  refine r_iload dX8_readPanes_102 rfl ?_
  exact r_ireturn rfl dX8_readPanes_104
def fX8_readPanes_60 (v2 : Nat) (v3 : Int32) (v4 : Int32) (u : US) : Option (Int32 × US) :=
  (if v4 = 0 then fX8_readPanes_71 v2 v3 1 u else fX8_readPanes_71 v2 v3 0 u)
set_option maxRecDepth 20000 in
theorem sX8_readPanes_60 (v2 : Nat) (h2 : isMom v2 = true) (v3 : Int32) (v4 : Int32) (u : US) : Sim tI mX8_readPanes 5 (fX8_readPanes_60 v2 v3 v4 u) 60 [some (.ref 3), some (.ref 2), some (.ref v2), some (.int v3), some (.int v4), none] [] u := by
  unfold fX8_readPanes_60
  refine r_aload_n dX8_readPanes_60 rfl ?_
  refine r_iload dX8_readPanes_61 rfl ?_
  refine r_if_ne dX8_readPanes_63 (tgt := 70) rfl ?_ ?_
  · refine r_iconst dX8_readPanes_70 (v := 0) rfl ?_
    refine r_mk [true, true, true, true, false, false] (ls2 := [some (.ref 3), some (.ref 2), some (.ref v2), some (.int v3), none, none]) rfl ?_
    exact sX8_readPanes_71 v2 h2 v3 0 u
  · refine r_iconst dX8_readPanes_66 (v := 1) rfl ?_
    refine r_goto dX8_readPanes_67 (tgt := 71) rfl ?_
    refine r_mk [true, true, true, true, false, false] (ls2 := [some (.ref 3), some (.ref 2), some (.ref v2), some (.int v3), none, none]) rfl ?_
    exact sX8_readPanes_71 v2 h2 v3 1 u
def fX8_readPanes_8 (v2 : Nat) : Nat → Int32 → Int32 → US → Option (Int32 × US)
  | 0, _, _, _ => none
  | n + 1, v3, v4, u => (if v4 = 0 then fX8_readPanes_60 v2 v3 v4 u else (if (8 : Int32) ≤ v3 then fX8_readPanes_60 v2 v3 v4 u else oB (fX5_digit 10 u) fun r1 u1 => gd (inb v3 8) (nx (sA u1 18 v3 r1) fun u2 => oB (fX5_kinds u2) fun r3 u3 => gd (inb v3 8) (nx (sA u3 19 v3 r3) fun u4 => gd (inb v3 (ln (fpt v2 2))) (nx (sA u4 (fpt v2 2) v3 (-1)) fun u5 => oB (fX5_another u5) fun r6 u6 => fX8_readPanes_8 v2 n (v3 + 1) r6 u6)))))
set_option maxRecDepth 20000 in
theorem sX8_readPanes_8 (v2 : Nat) (h2 : isMom v2 = true) : ∀ (n : Nat) (v3 : Int32) (v4 : Int32) (u : US), Sim tI mX8_readPanes 5 (fX8_readPanes_8 v2 n v3 v4 u) 8 [some (.ref 3), some (.ref 2), some (.ref v2), some (.int v3), some (.int v4), none] [] u := by
  intro n
  induction n with
  | zero =>
    intro v3 v4 u
    rw [fX8_readPanes_8.eq_1]
    exact r_none
  | succ n ih =>
    intro v3 v4 u
    rw [fX8_readPanes_8.eq_2]
    refine r_iload dX8_readPanes_8 rfl ?_
    refine r_if_eq dX8_readPanes_10 (tgt := 60) rfl ?_ ?_
    · exact sX8_readPanes_60 v2 h2 v3 v4 u
    · refine r_iload_n dX8_readPanes_13 rfl ?_
      refine r_bipush dX8_readPanes_14 (v := 8) rfl ?_
      refine r_icmp_ge dX8_readPanes_16 (tgt := 60) rfl ?_ ?_
      · exact sX8_readPanes_60 v2 h2 v3 v4 u
      · refine r_aload_n dX8_readPanes_19 rfl ?_
        refine r_get 3 7 flX8_25 rfl (v := .ref 18) rfl dX8_readPanes_20 ?_
        refine r_iload_n dX8_readPanes_23 rfl ?_
        refine r_aload_n dX8_readPanes_24 rfl ?_
        refine r_bipush dX8_readPanes_25 (v := 10) rfl ?_
        refine c_VI (As := [.int 10]) kvX8_70 rfl (by decide) (okX5_digit 10 u) rfl (Nat.le_of_ble_eq_true rfl) rfl dX8_readPanes_27 (fun r1 u1 => ?_)
        refine r_iast 18 rfl dX8_readPanes_30 (r_nx (fun u2 => ?_))
        refine r_aload_n dX8_readPanes_31 rfl ?_
        refine r_get 3 8 flX8_28 rfl (v := .ref 19) rfl dX8_readPanes_32 ?_
        refine r_iload_n dX8_readPanes_35 rfl ?_
        refine r_aload_n dX8_readPanes_36 rfl ?_
        refine c_VI (As := []) kvX8_103 rfl (by decide) (okX5_kinds u2) rfl (Nat.le_of_ble_eq_true rfl) rfl dX8_readPanes_37 (fun r3 u3 => ?_)
        refine r_iast 19 rfl dX8_readPanes_40 (r_nx (fun u4 => ?_))
        refine r_aload_n dX8_readPanes_41 rfl ?_
        refine r_get v2 2 flX8_106 (okO_mom h2) (v := .ref (fpt v2 2)) (slA_r (okO_mom h2) rfl rfl) dX8_readPanes_42 ?_
        refine r_iload_n dX8_readPanes_45 rfl ?_
        refine r_iconst dX8_readPanes_46 (v := -1) rfl ?_
        refine r_iast (fpt v2 2) (okA_mom h2 2 rfl) dX8_readPanes_47 (r_nx (fun u5 => ?_))
        refine r_aload_n dX8_readPanes_48 rfl ?_
        refine c_VI (As := []) kvX8_87 rfl (by decide) (okX5_another u5) rfl (Nat.le_of_ble_eq_true rfl) rfl dX8_readPanes_49 (fun r6 u6 => ?_)
        refine r_istore dX8_readPanes_52 (Nat.le_of_ble_eq_true rfl) (ls2 := [some (.ref 3), some (.ref 2), some (.ref v2), some (.int v3), some (.int r6), none]) rfl ?_
        refine r_iinc dX8_readPanes_54 (Nat.le_of_ble_eq_true rfl) rfl (v := v3 + 1) rfl (ls2 := [some (.ref 3), some (.ref 2), some (.ref v2), some (.int (v3 + 1)), some (.int r6), none]) rfl ?_
        refine r_goto dX8_readPanes_57 (tgt := 8) rfl ?_
        exact ih (v3 + 1) r6 u6
def fX8_readPanes (v2 : Nat) (u : US) : Option (Int32 × US) :=
  gd (isMom v2) (fX8_readPanes_8 v2 FU (gI u 3 3) 1 u)
set_option maxRecDepth 20000 in
theorem sX8_readPanes (v2 : Nat) (u : US) : Sim tI mX8_readPanes 5 (fX8_readPanes v2 u) 0 [some (.ref 3), some (.ref 2), some (.ref v2), none, none, none] [] u := by
  unfold fX8_readPanes
  refine r_gd (fun h2 => ?_)
  refine r_aload_n dX8_readPanes_0 rfl ?_
  refine r_get 3 3 flX8_47 rfl (v := .int (gI u 3 3)) rfl dX8_readPanes_1 ?_
  refine r_istore_n dX8_readPanes_4 (Nat.le_of_ble_eq_true rfl) (ls2 := [some (.ref 3), some (.ref 2), some (.ref v2), some (.int (gI u 3 3)), none, none]) rfl ?_
  refine r_iconst dX8_readPanes_5 (v := 1) rfl ?_
  refine r_istore dX8_readPanes_6 (Nat.le_of_ble_eq_true rfl) (ls2 := [some (.ref 3), some (.ref 2), some (.ref v2), some (.int (gI u 3 3)), some (.int 1), none]) rfl ?_
  exact sX8_readPanes_8 v2 h2 FU (gI u 3 3) 1 u
theorem okX8_readPanes (v2 : Nat) (u : US) : ∀ r, fX8_readPanes v2 u = some r → MetC mX8_readPanes 5 [.ref 3, .ref 2, .ref v2] u (tI r) :=
  met_of (by decide +kernel) (Nat.le_of_ble_eq_true rfl) rfl (sX8_readPanes v2 u)
def fX11_panes (u : US) : Option (Int32 × US) :=
  oB (fX7_isEmpty u) fun r1 u1 => (if r1 = 0 then oV (fX5_open 79 u1) fun u2 => oB (fX8_readPanes 4 u2) fun r3 u3 => oB (fX11_arrived r3 u3) fun r4 u4 => some (r4, u4) else some (0, u1))
set_option maxRecDepth 20000 in
theorem sX11_panes (u : US) : Sim tI mX11_panes 6 (fX11_panes u) 0 [some (.ref 0)] [] u := by
  unfold fX11_panes
  refine r_aload_n dX11_panes_0 rfl ?_
  refine r_get 0 0 flX11_10 rfl (v := .ref 1) rfl dX11_panes_1 ?_
  refine c_VI (As := []) kvX11_129 rfl (by decide) (okX7_isEmpty u) rfl (Nat.le_of_ble_eq_true rfl) rfl dX11_panes_4 (fun r1 u1 => ?_)
  refine r_if_eq dX11_panes_7 (tgt := 12) rfl ?_ ?_
  · refine r_aload_n dX11_panes_12 rfl ?_
    refine r_get 0 1 flX11_21 rfl (v := .ref 2) rfl dX11_panes_13 ?_
    refine r_bipush dX11_panes_16 (v := 79) rfl ?_
    refine c_VV (As := [.int 79]) kvX11_104 rfl (by decide) (okX5_open 79 u1) rfl (Nat.le_of_ble_eq_true rfl) rfl dX11_panes_18 (fun u2 => ?_)
    refine r_aload_n dX11_panes_21 rfl ?_
    refine r_aload_n dX11_panes_22 rfl ?_
    refine r_get 0 2 flX11_28 rfl (v := .ref 3) rfl dX11_panes_23 ?_
    refine r_aload_n dX11_panes_26 rfl ?_
    refine r_get 0 1 flX11_21 rfl (v := .ref 2) rfl dX11_panes_27 ?_
    refine r_aload_n dX11_panes_30 rfl ?_
    refine r_get 0 3 flX11_35 rfl (v := .ref 4) rfl dX11_panes_31 ?_
    refine c_VI (As := [.ref 2, .ref 4]) kvX11_140 rfl (by decide) (okX8_readPanes 4 u2) rfl (Nat.le_of_ble_eq_true rfl) rfl dX11_panes_34 (fun r3 u3 => ?_)
    refine c_VI (As := [.int r3]) kvX11_137 rfl (by decide) (okX11_arrived r3 u3) rfl (Nat.le_of_ble_eq_true rfl) rfl dX11_panes_37 (fun r4 u4 => ?_)
    exact r_ireturn rfl dX11_panes_40
  · refine r_iconst dX11_panes_10 (v := 0) rfl ?_
    exact r_ireturn rfl dX11_panes_11
theorem okX11_panes (u : US) : ∀ r, fX11_panes u = some r → MetC mX11_panes 6 [.ref 0] u (tI r) :=
  met_of (by decide +kernel) (Nat.le_of_ble_eq_true rfl) rfl (sX11_panes u)
def fX11_rests_32 (v1 : Int32) (k23 : Int32 → Int32 → US → Option (Int32 × US)) : Nat → Int32 → Int32 → Int32 → US → Option (Int32 × US)
  | 0, _, _, _, _ => none
  | n + 1, v2, v3, v4, u => (if (10 : Int32) ≤ v4 then k23 v2 (v3 + 1) u else oB (fX11_isContent v1 v3 v4 u) fun r1 u1 => (if r1 = 0 then fX11_rests_32 v1 k23 n v2 v3 (v4 + 1) u1 else oB (fX11_isContent v1 v4 v3 u1) fun r2 u2 => (if r2 = 0 then fX11_rests_32 v1 k23 n v2 v3 (v4 + 1) u2 else (if v2 = 0 then oV (fX2_tellTwo ((v3 : Int32).toInt64) ((v4 : Int32).toInt64) u2) fun u3 => fX11_rests_32 v1 k23 n (v2 + 1) v3 (v4 + 1) u3 else fX11_rests_32 v1 k23 n (v2 + 1) v3 (v4 + 1) u2))))
set_option maxRecDepth 20000 in
theorem sX11_rests_32 (v1 : Int32) (k23 : Int32 → Int32 → US → Option (Int32 × US)) (hk23 : ∀ (v2 : Int32) (v3 : Int32) (u : US), Sim tI mX11_rests 2 (k23 v2 v3 u) 23 [some (.ref 0), some (.int v1), some (.int v2), some (.int v3), none] [] u) : ∀ (n : Nat) (v2 : Int32) (v3 : Int32) (v4 : Int32) (u : US), Sim tI mX11_rests 2 (fX11_rests_32 v1 k23 n v2 v3 v4 u) 32 [some (.ref 0), some (.int v1), some (.int v2), some (.int v3), some (.int v4)] [] u := by
  intro n
  induction n with
  | zero =>
    intro v2 v3 v4 u
    rw [fX11_rests_32.eq_1]
    exact r_none
  | succ n ih =>
    intro v2 v3 v4 u
    rw [fX11_rests_32.eq_2]
    refine r_iload dX11_rests_32 rfl ?_
    refine r_bipush dX11_rests_34 (v := 10) rfl ?_
    refine r_icmp_ge dX11_rests_36 (tgt := 84) rfl ?_ ?_
    · refine r_iinc dX11_rests_84 (Nat.le_of_ble_eq_true rfl) rfl (v := v3 + 1) rfl (ls2 := [some (.ref 0), some (.int v1), some (.int v2), some (.int (v3 + 1)), some (.int v4)]) rfl ?_
      refine r_goto dX11_rests_87 (tgt := 23) rfl ?_
      refine r_mk [true, true, true, true, false] (ls2 := [some (.ref 0), some (.int v1), some (.int v2), some (.int (v3 + 1)), none]) rfl ?_
      exact hk23 v2 (v3 + 1) u
    · refine r_iload_n dX11_rests_39 rfl ?_
      refine r_iload_n dX11_rests_40 rfl ?_
      refine r_iload dX11_rests_41 rfl ?_
      refine c_SI (As := [.int v1, .int v3, .int v4]) ksX11_446 (by decide) (okX11_isContent v1 v3 v4 u) rfl (Nat.le_of_ble_eq_true rfl) rfl dX11_rests_43 (fun r1 u1 => ?_)
      refine r_if_eq dX11_rests_46 (tgt := 78) rfl ?_ ?_
      · refine r_iinc dX11_rests_78 (Nat.le_of_ble_eq_true rfl) rfl (v := v4 + 1) rfl (ls2 := [some (.ref 0), some (.int v1), some (.int v2), some (.int v3), some (.int (v4 + 1))]) rfl ?_
        refine r_goto dX11_rests_81 (tgt := 32) rfl ?_
        exact ih v2 v3 (v4 + 1) u1
      · refine r_iload_n dX11_rests_49 rfl ?_
        refine r_iload dX11_rests_50 rfl ?_
        refine r_iload_n dX11_rests_52 rfl ?_
        refine c_SI (As := [.int v1, .int v4, .int v3]) ksX11_446 (by decide) (okX11_isContent v1 v4 v3 u1) rfl (Nat.le_of_ble_eq_true rfl) rfl dX11_rests_53 (fun r2 u2 => ?_)
        refine r_if_eq dX11_rests_56 (tgt := 78) rfl ?_ ?_
        · refine r_iinc dX11_rests_78 (Nat.le_of_ble_eq_true rfl) rfl (v := v4 + 1) rfl (ls2 := [some (.ref 0), some (.int v1), some (.int v2), some (.int v3), some (.int (v4 + 1))]) rfl ?_
          refine r_goto dX11_rests_81 (tgt := 32) rfl ?_
          exact ih v2 v3 (v4 + 1) u2
        · refine r_iload_n dX11_rests_59 rfl ?_
          refine r_if_ne dX11_rests_60 (tgt := 75) rfl ?_ ?_
          · refine r_iinc dX11_rests_75 (Nat.le_of_ble_eq_true rfl) rfl (v := v2 + 1) rfl (ls2 := [some (.ref 0), some (.int v1), some (.int (v2 + 1)), some (.int v3), some (.int v4)]) rfl ?_
            refine r_iinc dX11_rests_78 (Nat.le_of_ble_eq_true rfl) rfl (v := v4 + 1) rfl (ls2 := [some (.ref 0), some (.int v1), some (.int (v2 + 1)), some (.int v3), some (.int (v4 + 1))]) rfl ?_
            refine r_goto dX11_rests_81 (tgt := 32) rfl ?_
            exact ih (v2 + 1) v3 (v4 + 1) u2
          · refine r_aload_n dX11_rests_63 rfl ?_
            refine r_get 0 7 flX11_55 rfl (v := .ref 8) rfl dX11_rests_64 ?_
            refine r_iload_n dX11_rests_67 rfl ?_
            refine r_i2l dX11_rests_68 ?_
            refine r_iload dX11_rests_69 rfl ?_
            refine r_i2l dX11_rests_71 ?_
            refine c_VV (As := [.long ((v3 : Int32).toInt64), .long ((v4 : Int32).toInt64)]) kvX11_298 rfl (by decide) (okX2_tellTwo ((v3 : Int32).toInt64) ((v4 : Int32).toInt64) u2) rfl (Nat.le_of_ble_eq_true rfl) rfl dX11_rests_72 (fun u3 => ?_)
            refine r_iinc dX11_rests_75 (Nat.le_of_ble_eq_true rfl) rfl (v := v2 + 1) rfl (ls2 := [some (.ref 0), some (.int v1), some (.int (v2 + 1)), some (.int v3), some (.int v4)]) rfl ?_
            refine r_iinc dX11_rests_78 (Nat.le_of_ble_eq_true rfl) rfl (v := v4 + 1) rfl (ls2 := [some (.ref 0), some (.int v1), some (.int (v2 + 1)), some (.int v3), some (.int (v4 + 1))]) rfl ?_
            refine r_goto dX11_rests_81 (tgt := 32) rfl ?_
            exact ih (v2 + 1) v3 (v4 + 1) u3
def fX11_rests_23 (v1 : Int32) : Nat → Int32 → Int32 → US → Option (Int32 × US)
  | 0, _, _, _ => none
  | n + 1, v2, v3, u => (if (10 : Int32) ≤ v3 then some (v2, u) else fX11_rests_32 v1 (fX11_rests_23 v1 n) FU v2 v3 0 u)
set_option maxRecDepth 20000 in
theorem sX11_rests_23 (v1 : Int32) : ∀ (n : Nat) (v2 : Int32) (v3 : Int32) (u : US), Sim tI mX11_rests 2 (fX11_rests_23 v1 n v2 v3 u) 23 [some (.ref 0), some (.int v1), some (.int v2), some (.int v3), none] [] u := by
  intro n
  induction n with
  | zero =>
    intro v2 v3 u
    rw [fX11_rests_23.eq_1]
    exact r_none
  | succ n ih =>
    intro v2 v3 u
    rw [fX11_rests_23.eq_2]
    refine r_iload_n dX11_rests_23 rfl ?_
    refine r_bipush dX11_rests_24 (v := 10) rfl ?_
    refine r_icmp_ge dX11_rests_26 (tgt := 90) rfl ?_ ?_
    · refine r_iload_n dX11_rests_90 rfl ?_
      exact r_ireturn rfl dX11_rests_91
    · refine r_iconst dX11_rests_29 (v := 0) rfl ?_
      refine r_istore dX11_rests_30 (Nat.le_of_ble_eq_true rfl) (ls2 := [some (.ref 0), some (.int v1), some (.int v2), some (.int v3), some (.int 0)]) rfl ?_
      exact sX11_rests_32 v1 (fX11_rests_23 v1 n) ih FU v2 v3 0 u
def fX11_rests (v1 : Int32) (u : US) : Option (Int32 × US) :=
  (if v1 < 0 then some ((-1), u) else (if v1 < 10 then oV (fX2_clear u) fun u1 => fX11_rests_23 v1 FU 0 0 u1 else some ((-1), u)))
set_option maxRecDepth 20000 in
theorem sX11_rests (v1 : Int32) (u : US) : Sim tI mX11_rests 2 (fX11_rests v1 u) 0 [some (.ref 0), some (.int v1), none, none, none] [] u := by
  unfold fX11_rests
  refine r_iload_n dX11_rests_0 rfl ?_
  refine r_if_lt dX11_rests_1 (tgt := 10) rfl ?_ ?_
  · refine r_iconst dX11_rests_10 (v := -1) rfl ?_
    exact r_ireturn rfl dX11_rests_11
  · refine r_iload_n dX11_rests_4 rfl ?_
    refine r_bipush dX11_rests_5 (v := 10) rfl ?_
    refine r_icmp_lt dX11_rests_7 (tgt := 12) rfl ?_ ?_
    · refine r_aload_n dX11_rests_12 rfl ?_
      refine r_get 0 7 flX11_55 rfl (v := .ref 8) rfl dX11_rests_13 ?_
      refine c_VV (As := []) kvX11_266 rfl (by decide) (okX2_clear u) rfl (Nat.le_of_ble_eq_true rfl) rfl dX11_rests_16 (fun u1 => ?_)
      refine r_iconst dX11_rests_19 (v := 0) rfl ?_
      refine r_istore_n dX11_rests_20 (Nat.le_of_ble_eq_true rfl) (ls2 := [some (.ref 0), some (.int v1), some (.int 0), none, none]) rfl ?_
      refine r_iconst dX11_rests_21 (v := 0) rfl ?_
      refine r_istore_n dX11_rests_22 (Nat.le_of_ble_eq_true rfl) (ls2 := [some (.ref 0), some (.int v1), some (.int 0), some (.int 0), none]) rfl ?_
      exact sX11_rests_23 v1 FU 0 0 u1
    · refine r_iconst dX11_rests_10 (v := -1) rfl ?_
      exact r_ireturn rfl dX11_rests_11
theorem okX11_rests (v1 : Int32) (u : US) : ∀ r, fX11_rests v1 u = some r → MetC mX11_rests 2 [.ref 0, .int v1] u (tI r) :=
  met_of (by decide +kernel) (Nat.le_of_ble_eq_true rfl) rfl (sX11_rests v1 u)
def fX8_readField (u : US) : Option (Int32 × US) :=
  oB (fX5_digit (gI u 3 0) u) fun r1 u1 => oB (fX5_digit (gI u1 3 1) u1) fun r2 u2 => some ((r1 * (gI u1 3 1)) + r2, u2)
set_option maxRecDepth 20000 in
theorem sX8_readField (u : US) : Sim tI mX8_readField 3 (fX8_readField u) 0 [some (.ref 3), some (.ref 2), none] [] u := by
  unfold fX8_readField
  refine r_aload_n dX8_readField_0 rfl ?_
  refine r_aload_n dX8_readField_1 rfl ?_
  refine r_get 3 0 flX8_9 rfl (v := .int (gI u 3 0)) rfl dX8_readField_2 ?_
  refine c_VI (As := [.int (gI u 3 0)]) kvX8_70 rfl (by decide) (okX5_digit (gI u 3 0) u) rfl (Nat.le_of_ble_eq_true rfl) rfl dX8_readField_5 (fun r1 u1 => ?_)
  refine r_istore_n dX8_readField_8 (Nat.le_of_ble_eq_true rfl) (ls2 := [some (.ref 3), some (.ref 2), some (.int r1)]) rfl ?_
  refine r_iload_n dX8_readField_9 rfl ?_
  refine r_aload_n dX8_readField_10 rfl ?_
  refine r_get 3 1 flX8_15 rfl (v := .int (gI u1 3 1)) rfl dX8_readField_11 ?_
  refine r_imul dX8_readField_14 ?_
  refine r_aload_n dX8_readField_15 rfl ?_
  refine r_aload_n dX8_readField_16 rfl ?_
  refine r_get 3 1 flX8_15 rfl (v := .int (gI u1 3 1)) rfl dX8_readField_17 ?_
  refine c_VI (As := [.int (gI u1 3 1)]) kvX8_70 rfl (by decide) (okX5_digit (gI u1 3 1) u1) rfl (Nat.le_of_ble_eq_true rfl) rfl dX8_readField_20 (fun r2 u2 => ?_)
  refine r_iadd dX8_readField_23 ?_
  exact r_ireturn rfl dX8_readField_24
theorem okX8_readField (u : US) : ∀ r, fX8_readField u = some r → MetC mX8_readField 3 [.ref 3, .ref 2] u (tI r) :=
  met_of (by decide +kernel) (Nat.le_of_ble_eq_true rfl) rfl (sX8_readField u)
def fX8_readRooms_60 (v2 : Int32) (s1 : Int32) (u : US) : Option (Int32 × US) :=
  oB (fX5_demand s1 u) fun r1 u1 => oB (fX5_answer (v2 - (gI u1 3 4)) u1) fun r2 u2 => nx (sI u2 3 4 ((gI u2 3 4) + (if (0 : Int32) < r2 then r2 else 0))) fun u3 => some (r2, u3)
set_option maxRecDepth 20000 in
theorem sX8_readRooms_60 (v2 : Int32) (s1 : Int32) (u : US) : Sim tI mX8_readRooms 5 (fX8_readRooms_60 v2 s1 u) 60 [some (.ref 3), some (.ref 2), some (.int v2), none, none] [.int s1, .ref 2] u := by
  unfold fX8_readRooms_60
  refine c_VI (As := [.int s1]) kvX8_91 rfl (by decide) (okX5_demand s1 u) rfl (Nat.le_of_ble_eq_true rfl) rfl dX8_readRooms_60 (fun r1 u1 => ?_)
  refine r_pop dX8_readRooms_63 rfl ?_
  refine r_aload_n dX8_readRooms_64 rfl ?_
  refine r_iload_n dX8_readRooms_65 rfl ?_
  refine r_aload_n dX8_readRooms_66 rfl ?_
  refine r_get 3 4 flX8_50 rfl (v := .int (gI u1 3 4)) rfl dX8_readRooms_67 ?_
  refine r_isub dX8_readRooms_70 ?_
  refine c_VI (As := [.int (v2 - (gI u1 3 4))]) kvX8_95 rfl (by decide) (okX5_answer (v2 - (gI u1 3 4)) u1) rfl (Nat.le_of_ble_eq_true rfl) rfl dX8_readRooms_71 (fun r2 u2 => ?_)
  refine r_istore dX8_readRooms_74 (Nat.le_of_ble_eq_true rfl) (ls2 := [some (.ref 3), some (.ref 2), some (.int v2), none, some (.int r2)]) rfl ?_
  refine r_aload_n dX8_readRooms_76 rfl ?_
  refine r_dup dX8_readRooms_77 rfl ?_
  refine r_get 3 4 flX8_50 rfl (v := .int (gI u2 3 4)) rfl dX8_readRooms_78 ?_
  refine r_iconst dX8_readRooms_81 (v := 0) rfl ?_
  refine r_iload dX8_readRooms_82 rfl ?_
  refine r_max kmX8_98 ktMath_max knMath kcMath_max (by decide) (Nat.le_of_ble_eq_true rfl) dX8_readRooms_84 ?_
  refine r_iadd dX8_readRooms_87 ?_
  refine r_put 3 4 fpX8_50 rfl rfl dX8_readRooms_88 (r_nx (fun u3 => ?_))
  refine r_iload dX8_readRooms_91 rfl ?_
  exact r_ireturn rfl dX8_readRooms_93
def fX8_readRooms_50 (v2 : Int32) (v3 : Int32) (u : US) : Option (Int32 × US) :=
  (if v3 = 0 then fX8_readRooms_60 v2 1 u else fX8_readRooms_60 v2 0 u)
set_option maxRecDepth 20000 in
theorem sX8_readRooms_50 (v2 : Int32) (v3 : Int32) (u : US) : Sim tI mX8_readRooms 5 (fX8_readRooms_50 v2 v3 u) 50 [some (.ref 3), some (.ref 2), some (.int v2), some (.int v3), none] [] u := by
  unfold fX8_readRooms_50
  refine r_aload_n dX8_readRooms_50 rfl ?_
  refine r_iload_n dX8_readRooms_51 rfl ?_
  refine r_if_ne dX8_readRooms_52 (tgt := 59) rfl ?_ ?_
  · refine r_iconst dX8_readRooms_59 (v := 0) rfl ?_
    refine r_mk [true, true, true, false, false] (ls2 := [some (.ref 3), some (.ref 2), some (.int v2), none, none]) rfl ?_
    exact sX8_readRooms_60 v2 0 u
  · refine r_iconst dX8_readRooms_55 (v := 1) rfl ?_
    refine r_goto dX8_readRooms_56 (tgt := 60) rfl ?_
    refine r_mk [true, true, true, false, false] (ls2 := [some (.ref 3), some (.ref 2), some (.int v2), none, none]) rfl ?_
    exact sX8_readRooms_60 v2 1 u
def fX8_readRooms_7 : Nat → Int32 → Int32 → US → Option (Int32 × US)
  | 0, _, _, _ => none
  | n + 1, v2, v3, u => (if v3 = 0 then fX8_readRooms_50 v2 v3 u else (if (4 : Int32) ≤ v2 then fX8_readRooms_50 v2 v3 u else oB (fX8_readField u) fun r1 u1 => gd (inb v2 4) (nx (sA u1 20 v2 r1) fun u2 => oB (fX5_digit 10 u2) fun r3 u3 => gd (inb v2 4) (nx (sA u3 21 v2 r3) fun u4 => oB (fX5_another u4) fun r5 u5 => fX8_readRooms_7 n (v2 + 1) r5 u5))))
set_option maxRecDepth 20000 in
theorem sX8_readRooms_7 : ∀ (n : Nat) (v2 : Int32) (v3 : Int32) (u : US), Sim tI mX8_readRooms 5 (fX8_readRooms_7 n v2 v3 u) 7 [some (.ref 3), some (.ref 2), some (.int v2), some (.int v3), none] [] u := by
  intro n
  induction n with
  | zero =>
    intro v2 v3 u
    rw [fX8_readRooms_7.eq_1]
    exact r_none
  | succ n ih =>
    intro v2 v3 u
    rw [fX8_readRooms_7.eq_2]
    refine r_iload_n dX8_readRooms_7 rfl ?_
    refine r_if_eq dX8_readRooms_8 (tgt := 50) rfl ?_ ?_
    · exact sX8_readRooms_50 v2 v3 u
    · refine r_iload_n dX8_readRooms_11 rfl ?_
      refine r_iconst dX8_readRooms_12 (v := 4) rfl ?_
      refine r_icmp_ge dX8_readRooms_13 (tgt := 50) rfl ?_ ?_
      · exact sX8_readRooms_50 v2 v3 u
      · refine r_aload_n dX8_readRooms_16 rfl ?_
        refine r_get 3 9 flX8_31 rfl (v := .ref 20) rfl dX8_readRooms_17 ?_
        refine r_iload_n dX8_readRooms_20 rfl ?_
        refine r_aload_n dX8_readRooms_21 rfl ?_
        refine r_aload_n dX8_readRooms_22 rfl ?_
        refine c_VI (As := [.ref 2]) kvX8_78 rfl (by decide) (okX8_readField u) rfl (Nat.le_of_ble_eq_true rfl) rfl dX8_readRooms_23 (fun r1 u1 => ?_)
        refine r_iast 20 rfl dX8_readRooms_26 (r_nx (fun u2 => ?_))
        refine r_aload_n dX8_readRooms_27 rfl ?_
        refine r_get 3 10 flX8_34 rfl (v := .ref 21) rfl dX8_readRooms_28 ?_
        refine r_iload_n dX8_readRooms_31 rfl ?_
        refine r_aload_n dX8_readRooms_32 rfl ?_
        refine r_bipush dX8_readRooms_33 (v := 10) rfl ?_
        refine c_VI (As := [.int 10]) kvX8_70 rfl (by decide) (okX5_digit 10 u2) rfl (Nat.le_of_ble_eq_true rfl) rfl dX8_readRooms_35 (fun r3 u3 => ?_)
        refine r_iast 21 rfl dX8_readRooms_38 (r_nx (fun u4 => ?_))
        refine r_aload_n dX8_readRooms_39 rfl ?_
        refine c_VI (As := []) kvX8_87 rfl (by decide) (okX5_another u4) rfl (Nat.le_of_ble_eq_true rfl) rfl dX8_readRooms_40 (fun r5 u5 => ?_)
        refine r_istore_n dX8_readRooms_43 (Nat.le_of_ble_eq_true rfl) (ls2 := [some (.ref 3), some (.ref 2), some (.int v2), some (.int r5), none]) rfl ?_
        refine r_iinc dX8_readRooms_44 (Nat.le_of_ble_eq_true rfl) rfl (v := v2 + 1) rfl (ls2 := [some (.ref 3), some (.ref 2), some (.int (v2 + 1)), some (.int r5), none]) rfl ?_
        refine r_goto dX8_readRooms_47 (tgt := 7) rfl ?_
        exact ih (v2 + 1) r5 u5
def fX8_readRooms (u : US) : Option (Int32 × US) :=
  fX8_readRooms_7 FU (gI u 3 4) 1 u
set_option maxRecDepth 20000 in
theorem sX8_readRooms (u : US) : Sim tI mX8_readRooms 5 (fX8_readRooms u) 0 [some (.ref 3), some (.ref 2), none, none, none] [] u := by
  unfold fX8_readRooms
  refine r_aload_n dX8_readRooms_0 rfl ?_
  refine r_get 3 4 flX8_50 rfl (v := .int (gI u 3 4)) rfl dX8_readRooms_1 ?_
  refine r_istore_n dX8_readRooms_4 (Nat.le_of_ble_eq_true rfl) (ls2 := [some (.ref 3), some (.ref 2), some (.int (gI u 3 4)), none, none]) rfl ?_
  refine r_iconst dX8_readRooms_5 (v := 1) rfl ?_
  refine r_istore_n dX8_readRooms_6 (Nat.le_of_ble_eq_true rfl) (ls2 := [some (.ref 3), some (.ref 2), some (.int (gI u 3 4)), some (.int 1), none]) rfl ?_
  exact sX8_readRooms_7 FU (gI u 3 4) 1 u
theorem okX8_readRooms (u : US) : ∀ r, fX8_readRooms u = some r → MetC mX8_readRooms 5 [.ref 3, .ref 2] u (tI r) :=
  met_of (by decide +kernel) (Nat.le_of_ble_eq_true rfl) rfl (sX8_readRooms u)
def fX11_rooms (u : US) : Option (Int32 × US) :=
  oB (fX7_isEmpty u) fun r1 u1 => (if r1 = 0 then oV (fX5_open 15 u1) fun u2 => oB (fX8_readRooms u2) fun r3 u3 => oB (fX11_arrived r3 u3) fun r4 u4 => some (r4, u4) else some (0, u1))
set_option maxRecDepth 20000 in
theorem sX11_rooms (u : US) : Sim tI mX11_rooms 6 (fX11_rooms u) 0 [some (.ref 0)] [] u := by
  unfold fX11_rooms
  refine r_aload_n dX11_rooms_0 rfl ?_
  refine r_get 0 0 flX11_10 rfl (v := .ref 1) rfl dX11_rooms_1 ?_
  refine c_VI (As := []) kvX11_129 rfl (by decide) (okX7_isEmpty u) rfl (Nat.le_of_ble_eq_true rfl) rfl dX11_rooms_4 (fun r1 u1 => ?_)
  refine r_if_eq dX11_rooms_7 (tgt := 12) rfl ?_ ?_
  · refine r_aload_n dX11_rooms_12 rfl ?_
    refine r_get 0 1 flX11_21 rfl (v := .ref 2) rfl dX11_rooms_13 ?_
    refine r_bipush dX11_rooms_16 (v := 15) rfl ?_
    refine c_VV (As := [.int 15]) kvX11_104 rfl (by decide) (okX5_open 15 u1) rfl (Nat.le_of_ble_eq_true rfl) rfl dX11_rooms_18 (fun u2 => ?_)
    refine r_aload_n dX11_rooms_21 rfl ?_
    refine r_aload_n dX11_rooms_22 rfl ?_
    refine r_get 0 2 flX11_28 rfl (v := .ref 3) rfl dX11_rooms_23 ?_
    refine r_aload_n dX11_rooms_26 rfl ?_
    refine r_get 0 1 flX11_21 rfl (v := .ref 2) rfl dX11_rooms_27 ?_
    refine c_VI (As := [.ref 2]) kvX11_143 rfl (by decide) (okX8_readRooms u2) rfl (Nat.le_of_ble_eq_true rfl) rfl dX11_rooms_30 (fun r3 u3 => ?_)
    refine c_VI (As := [.int r3]) kvX11_137 rfl (by decide) (okX11_arrived r3 u3) rfl (Nat.le_of_ble_eq_true rfl) rfl dX11_rooms_33 (fun r4 u4 => ?_)
    exact r_ireturn rfl dX11_rooms_36
  · refine r_iconst dX11_rooms_10 (v := 0) rfl ?_
    exact r_ireturn rfl dX11_rooms_11
theorem okX11_rooms (u : US) : ∀ r, fX11_rooms u = some r → MetC mX11_rooms 6 [.ref 0] u (tI r) :=
  met_of (by decide +kernel) (Nat.le_of_ble_eq_true rfl) rfl (sX11_rooms u)
def fX11_rule (u : US) : Option (Int32 × US) :=
  oB (fX11_readSpare u) fun r1 u1 => (if r1 = (-1) then oV (fX11_swapRules u1) fun u2 => some (0, u2) else some ((-1) - r1, u1))
set_option maxRecDepth 20000 in
theorem sX11_rule (u : US) : Sim tI mX11_rule 403 (fX11_rule u) 0 [some (.ref 0), none] [] u := by
  unfold fX11_rule
  refine r_aload_n dX11_rule_0 rfl ?_
  refine c_VI (As := []) kvX11_147 rfl (by decide) (okX11_readSpare u) rfl (Nat.le_of_ble_eq_true rfl) rfl dX11_rule_1 (fun r1 u1 => ?_)
  refine r_istore_n dX11_rule_4 (Nat.le_of_ble_eq_true rfl) (ls2 := [some (.ref 0), some (.int r1)]) rfl ?_
  refine r_iload_n dX11_rule_5 rfl ?_
  refine r_iconst dX11_rule_6 (v := -1) rfl ?_
  refine r_icmp_eq dX11_rule_7 (tgt := 14) rfl ?_ ?_
  · refine r_aload_n dX11_rule_14 rfl ?_
    refine c_VV (As := []) kvX11_150 rfl (by decide) (okX11_swapRules u1) rfl (Nat.le_of_ble_eq_true rfl) rfl dX11_rule_15 (fun u2 => ?_)
    refine r_iconst dX11_rule_18 (v := 0) rfl ?_
    exact r_ireturn rfl dX11_rule_19
  · refine r_iconst dX11_rule_10 (v := -1) rfl ?_
    refine r_iload_n dX11_rule_11 rfl ?_
    refine r_isub dX11_rule_12 ?_
    exact r_ireturn rfl dX11_rule_13
theorem okX11_rule (u : US) : ∀ r, fX11_rule u = some r → MetC mX11_rule 403 [.ref 0] u (tI r) :=
  met_of (by decide +kernel) (Nat.le_of_ble_eq_true rfl) rfl (sX11_rule u)
def fX8_shameOf_20 (v0 : Int32) (v1 : Int32) (s0 : Int32) (u : US) : Option (Int32 × US) :=
  some (if (0 : Int32) < (if s0 < 9 then s0 else 9) then if s0 < 9 then s0 else 9 else 0, u)
set_option maxRecDepth 20000 in
theorem sX8_shameOf_20 (v0 : Int32) (v1 : Int32) (s0 : Int32) (u : US) : Sim tI mX8_shameOf 5 (fX8_shameOf_20 v0 v1 s0 u) 20 [some (.int v0), some (.int v1), none] [.int s0] u := by
  unfold fX8_shameOf_20
  refine r_istore_n dX8_shameOf_20 (Nat.le_of_ble_eq_true rfl) (ls2 := [some (.int v0), some (.int v1), some (.int s0)]) rfl ?_
  refine r_iconst dX8_shameOf_21 (v := 0) rfl ?_
  refine r_bipush dX8_shameOf_22 (v := 9) rfl ?_
  refine r_iload_n dX8_shameOf_24 rfl ?_
  refine r_min kmX8_112 ktMath_min knMath kcMath_min (by decide) (Nat.le_of_ble_eq_true rfl) dX8_shameOf_25 ?_
  refine r_max kmX8_98 ktMath_max knMath kcMath_max (by decide) (Nat.le_of_ble_eq_true rfl) dX8_shameOf_28 ?_
  exact r_ireturn rfl dX8_shameOf_31
def fX8_shameOf (v0 : Int32) (v1 : Int32) (u : US) : Option (Int32 × US) :=
  (if v0 = 0 then fX8_shameOf_20 v0 v1 ((v1 : Int32).toInt8.toInt32) u else (if v0 = 1 then fX8_shameOf_20 v0 v1 ((v1 : Int32).toInt16.toInt32) u else fX8_shameOf_20 v0 v1 v1 u))
set_option maxRecDepth 20000 in
theorem sX8_shameOf (v0 : Int32) (v1 : Int32) (u : US) : Sim tI mX8_shameOf 5 (fX8_shameOf v0 v1 u) 0 [some (.int v0), some (.int v1), none] [] u := by
  unfold fX8_shameOf
  refine r_iload_n dX8_shameOf_0 rfl ?_
  refine r_if_ne dX8_shameOf_1 (tgt := 9) rfl ?_ ?_
  · refine r_iload_n dX8_shameOf_9 rfl ?_
    refine r_iconst dX8_shameOf_10 (v := 1) rfl ?_
    refine r_icmp_ne dX8_shameOf_11 (tgt := 19) rfl ?_ ?_
    · refine r_iload_n dX8_shameOf_19 rfl ?_
      exact sX8_shameOf_20 v0 v1 v1 u
    · refine r_iload_n dX8_shameOf_14 rfl ?_
      refine r_i2s dX8_shameOf_15 ?_
      refine r_goto dX8_shameOf_16 (tgt := 20) rfl ?_
      exact sX8_shameOf_20 v0 v1 ((v1 : Int32).toInt16.toInt32) u
  · refine r_iload_n dX8_shameOf_4 rfl ?_
    refine r_i2b dX8_shameOf_5 ?_
    refine r_goto dX8_shameOf_6 (tgt := 20) rfl ?_
    exact sX8_shameOf_20 v0 v1 ((v1 : Int32).toInt8.toInt32) u
theorem okX8_shameOf (v0 : Int32) (v1 : Int32) (u : US) : ∀ r, fX8_shameOf v0 v1 u = some r → MetC mX8_shameOf 5 [.int v0, .int v1] u (tI r) :=
  met_of (by decide +kernel) (Nat.le_of_ble_eq_true rfl) rfl (sX8_shameOf v0 v1 u)
def fX8_setShames_42 (v1 : Int32) (v2 : Int32) (v3 : Int32) (v4 : Int32) (k6 : Int32 → Int32 → US → Option (Int32 × US)) (v5 : Int32) (v6 : Int32) (s1 : Int32) (s2 : Int32) (u : US) : Option (Int32 × US) :=
  gd (inb s1 8) (nx (sA u 17 s1 s2) fun u1 => gd (inb v6 8) (k6 (v5 + (gA u1 17 v6)) (v6 + 1) u1))
set_option maxRecDepth 20000 in
theorem sX8_setShames_42 (v1 : Int32) (v2 : Int32) (v3 : Int32) (v4 : Int32) (k6 : Int32 → Int32 → US → Option (Int32 × US)) (hk6 : ∀ (v5 : Int32) (v6 : Int32) (u : US), Sim tI mX8_setShames 6 (k6 v5 v6 u) 6 [some (.ref 3), some (.int v1), some (.int v2), some (.int v3), some (.int v4), some (.int v5), some (.int v6)] [] u) (v5 : Int32) (v6 : Int32) (s1 : Int32) (s2 : Int32) (u : US) : Sim tI mX8_setShames 6 (fX8_setShames_42 v1 v2 v3 v4 k6 v5 v6 s1 s2 u) 42 [some (.ref 3), some (.int v1), some (.int v2), some (.int v3), some (.int v4), some (.int v5), some (.int v6)] [.int s2, .int s1, .ref 17] u := by
  unfold fX8_setShames_42
  refine r_iast 17 rfl dX8_setShames_42 (r_nx (fun u1 => ?_))
  refine r_iload dX8_setShames_43 rfl ?_
  refine r_aload_n dX8_setShames_45 rfl ?_
  refine r_get 3 6 flX8_22 rfl (v := .ref 17) rfl dX8_setShames_46 ?_
  refine r_iload dX8_setShames_49 rfl ?_
  refine r_iald 17 rfl dX8_setShames_51 ?_
  refine r_iadd dX8_setShames_52 ?_
  refine r_istore dX8_setShames_53 (Nat.le_of_ble_eq_true rfl) (ls2 := [some (.ref 3), some (.int v1), some (.int v2), some (.int v3), some (.int v4), some (.int (v5 + (gA u1 17 v6))), some (.int v6)]) rfl ?_
  refine r_iinc dX8_setShames_55 (Nat.le_of_ble_eq_true rfl) rfl (v := v6 + 1) rfl (ls2 := [some (.ref 3), some (.int v1), some (.int v2), some (.int v3), some (.int v4), some (.int (v5 + (gA u1 17 v6))), some (.int (v6 + 1))]) rfl ?_
  refine r_goto dX8_setShames_58 (tgt := 6) rfl ?_
  exact hk6 (v5 + (gA u1 17 v6)) (v6 + 1) u1
def fX8_setShames_6 (v1 : Int32) (v2 : Int32) (v3 : Int32) (v4 : Int32) : Nat → Int32 → Int32 → US → Option (Int32 × US)
  | 0, _, _, _ => none
  | n + 1, v5, v6, u => (if (gI u 3 2) ≤ v6 then some (v5, u) else (if v2 ≤ v6 then fX8_setShames_42 v1 v2 v3 v4 (fX8_setShames_6 v1 v2 v3 v4 n) v5 v6 v6 0 u else oB (fX8_shameOf v1 (v3 + (v6 * v4)) u) fun r1 u1 => fX8_setShames_42 v1 v2 v3 v4 (fX8_setShames_6 v1 v2 v3 v4 n) v5 v6 v6 r1 u1))
set_option maxRecDepth 20000 in
theorem sX8_setShames_6 (v1 : Int32) (v2 : Int32) (v3 : Int32) (v4 : Int32) : ∀ (n : Nat) (v5 : Int32) (v6 : Int32) (u : US), Sim tI mX8_setShames 6 (fX8_setShames_6 v1 v2 v3 v4 n v5 v6 u) 6 [some (.ref 3), some (.int v1), some (.int v2), some (.int v3), some (.int v4), some (.int v5), some (.int v6)] [] u := by
  intro n
  induction n with
  | zero =>
    intro v5 v6 u
    rw [fX8_setShames_6.eq_1]
    exact r_none
  | succ n ih =>
    intro v5 v6 u
    rw [fX8_setShames_6.eq_2]
    refine r_iload dX8_setShames_6 rfl ?_
    refine r_aload_n dX8_setShames_8 rfl ?_
    refine r_get 3 2 flX8_44 rfl (v := .int (gI u 3 2)) rfl dX8_setShames_9 ?_
    refine r_icmp_ge dX8_setShames_12 (tgt := 61) rfl ?_ ?_
    · refine r_iload dX8_setShames_61 rfl ?_
      exact r_ireturn rfl dX8_setShames_63
    · refine r_aload_n dX8_setShames_15 rfl ?_
      refine r_get 3 6 flX8_22 rfl (v := .ref 17) rfl dX8_setShames_16 ?_
      refine r_iload dX8_setShames_19 rfl ?_
      refine r_iload dX8_setShames_21 rfl ?_
      refine r_iload_n dX8_setShames_23 rfl ?_
      refine r_icmp_ge dX8_setShames_24 (tgt := 41) rfl ?_ ?_
      · refine r_iconst dX8_setShames_41 (v := 0) rfl ?_
        exact sX8_setShames_42 v1 v2 v3 v4 (fX8_setShames_6 v1 v2 v3 v4 n) ih v5 v6 v6 0 u
      · refine r_iload_n dX8_setShames_27 rfl ?_
        refine r_iload_n dX8_setShames_28 rfl ?_
        refine r_iload dX8_setShames_29 rfl ?_
        refine r_iload dX8_setShames_31 rfl ?_
        refine r_imul dX8_setShames_33 ?_
        refine r_iadd dX8_setShames_34 ?_
        refine c_SI (As := [.int v1, .int (v3 + (v6 * v4))]) ksX8_109 (by decide) (okX8_shameOf v1 (v3 + (v6 * v4)) u) rfl (Nat.le_of_ble_eq_true rfl) rfl dX8_setShames_35 (fun r1 u1 => ?_)
        refine r_goto dX8_setShames_38 (tgt := 42) rfl ?_
        exact sX8_setShames_42 v1 v2 v3 v4 (fX8_setShames_6 v1 v2 v3 v4 n) ih v5 v6 v6 r1 u1
def fX8_setShames (v1 : Int32) (v2 : Int32) (v3 : Int32) (v4 : Int32) (u : US) : Option (Int32 × US) :=
  fX8_setShames_6 v1 v2 v3 v4 FU 0 0 u
set_option maxRecDepth 20000 in
theorem sX8_setShames (v1 : Int32) (v2 : Int32) (v3 : Int32) (v4 : Int32) (u : US) : Sim tI mX8_setShames 6 (fX8_setShames v1 v2 v3 v4 u) 0 [some (.ref 3), some (.int v1), some (.int v2), some (.int v3), some (.int v4), none, none] [] u := by
  unfold fX8_setShames
  refine r_iconst dX8_setShames_0 (v := 0) rfl ?_
  refine r_istore dX8_setShames_1 (Nat.le_of_ble_eq_true rfl) (ls2 := [some (.ref 3), some (.int v1), some (.int v2), some (.int v3), some (.int v4), some (.int 0), none]) rfl ?_
  refine r_iconst dX8_setShames_3 (v := 0) rfl ?_
  refine r_istore dX8_setShames_4 (Nat.le_of_ble_eq_true rfl) (ls2 := [some (.ref 3), some (.int v1), some (.int v2), some (.int v3), some (.int v4), some (.int 0), some (.int 0)]) rfl ?_
  exact sX8_setShames_6 v1 v2 v3 v4 FU 0 0 u
theorem okX8_setShames (v1 : Int32) (v2 : Int32) (v3 : Int32) (v4 : Int32) (u : US) : ∀ r, fX8_setShames v1 v2 v3 v4 u = some r → MetC mX8_setShames 6 [.ref 3, .int v1, .int v2, .int v3, .int v4] u (tI r) :=
  met_of (by decide +kernel) (Nat.le_of_ble_eq_true rfl) rfl (sX8_setShames v1 v2 v3 v4 u)
def fX11_sheet (v1 : Int32) (v2 : Int32) (v3 : Int32) (v4 : Int32) (u : US) : Option (Int32 × US) :=
  (if v1 < 0 then some ((-1), u) else (if (3 : Int32) < v1 then some ((-1), u) else (if v2 ≤ 8 then (if v1 = 3 then oB (fX8_setShames 0 0 0 0 u) fun r2 u2 => some ((-3), u2) else (if 0 ≤ v2 then oB (fX8_setShames v1 v2 v3 v4 u) fun r1 u1 => some (r1, u1) else some ((-2), u))) else some ((-1), u))))
set_option maxRecDepth 20000 in
theorem sX11_sheet (v1 : Int32) (v2 : Int32) (v3 : Int32) (v4 : Int32) (u : US) : Sim tI mX11_sheet 7 (fX11_sheet v1 v2 v3 v4 u) 0 [some (.ref 0), some (.int v1), some (.int v2), some (.int v3), some (.int v4)] [] u := by
  unfold fX11_sheet
  refine r_iload_n dX11_sheet_0 rfl ?_
  refine r_if_lt dX11_sheet_1 (tgt := 15) rfl ?_ ?_
  · refine r_iconst dX11_sheet_15 (v := -1) rfl ?_
    exact r_ireturn rfl dX11_sheet_16
  · refine r_iload_n dX11_sheet_4 rfl ?_
    refine r_iconst dX11_sheet_5 (v := 3) rfl ?_
    refine r_icmp_gt dX11_sheet_6 (tgt := 15) rfl ?_ ?_
    · refine r_iconst dX11_sheet_15 (v := -1) rfl ?_
      exact r_ireturn rfl dX11_sheet_16
    · refine r_iload_n dX11_sheet_9 rfl ?_
      refine r_bipush dX11_sheet_10 (v := 8) rfl ?_
      refine r_icmp_le dX11_sheet_12 (tgt := 17) rfl ?_ ?_
      · refine r_iload_n dX11_sheet_17 rfl ?_
        refine r_iconst dX11_sheet_18 (v := 3) rfl ?_
        refine r_icmp_ne dX11_sheet_19 (tgt := 37) rfl ?_ ?_
        · refine r_iload_n dX11_sheet_37 rfl ?_
          refine r_if_ge dX11_sheet_38 (tgt := 46) rfl ?_ ?_
          · refine r_aload_n dX11_sheet_46 rfl ?_
            refine r_get 0 2 flX11_28 rfl (v := .ref 3) rfl dX11_sheet_47 ?_
            refine r_iload_n dX11_sheet_50 rfl ?_
            refine r_iload_n dX11_sheet_51 rfl ?_
            refine r_iload_n dX11_sheet_52 rfl ?_
            refine r_iload dX11_sheet_53 rfl ?_
            refine c_VI (As := [.int v1, .int v2, .int v3, .int v4]) kvX11_227 rfl (by decide) (okX8_setShames v1 v2 v3 v4 u) rfl (Nat.le_of_ble_eq_true rfl) rfl dX11_sheet_55 (fun r1 u1 => ?_)
            exact r_ireturn rfl dX11_sheet_58
          · refine r_bipush dX11_sheet_41 (v := -2) rfl ?_
            refine r_goto dX11_sheet_43 (tgt := 58) rfl ?_
            exact r_ireturn rfl dX11_sheet_58
        · refine r_aload_n dX11_sheet_22 rfl ?_
          refine r_get 0 2 flX11_28 rfl (v := .ref 3) rfl dX11_sheet_23 ?_
          refine r_iconst dX11_sheet_26 (v := 0) rfl ?_
          refine r_iconst dX11_sheet_27 (v := 0) rfl ?_
          refine r_iconst dX11_sheet_28 (v := 0) rfl ?_
          refine r_iconst dX11_sheet_29 (v := 0) rfl ?_
          refine c_VI (As := [.int 0, .int 0, .int 0, .int 0]) kvX11_227 rfl (by decide) (okX8_setShames 0 0 0 0 u) rfl (Nat.le_of_ble_eq_true rfl) rfl dX11_sheet_30 (fun r2 u2 => ?_)
          refine r_pop dX11_sheet_33 rfl ?_
          refine r_bipush dX11_sheet_34 (v := -3) rfl ?_
          exact r_ireturn rfl dX11_sheet_36
      · refine r_iconst dX11_sheet_15 (v := -1) rfl ?_
        exact r_ireturn rfl dX11_sheet_16
theorem okX11_sheet (v1 : Int32) (v2 : Int32) (v3 : Int32) (v4 : Int32) (u : US) : ∀ r, fX11_sheet v1 v2 v3 v4 u = some r → MetC mX11_sheet 7 [.ref 0, .int v1, .int v2, .int v3, .int v4] u (tI r) :=
  met_of (by decide +kernel) (Nat.le_of_ble_eq_true rfl) rfl (sX11_sheet v1 v2 v3 v4 u)
def fX7_add_13 (v1 : Int32) : Nat → Int32 → US → Option (Int32 × US)
  | 0, _, _ => none
  | n + 1, v2, u => (if (4 : Int32) ≤ v2 then nx (sI u 1 1 ((gI u 1 1) + 4)) fun u1 => some (gI u1 1 1, u1) else gd (inb ((gI u 1 1) + v2) 80) (nx (sA u 15 ((gI u 1 1) + v2) ((ush v1 (24 - (8 * v2))) &&& 255)) fun u2 => fX7_add_13 v1 n (v2 + 1) u2))
set_option maxRecDepth 20000 in
theorem sX7_add_13 (v1 : Int32) : ∀ (n : Nat) (v2 : Int32) (u : US), Sim tI mX7_add 0 (fX7_add_13 v1 n v2 u) 13 [some (.ref 1), some (.int v1), some (.int v2)] [] u := by
  intro n
  induction n with
  | zero =>
    intro v2 u
    rw [fX7_add_13.eq_1]
    exact r_none
  | succ n ih =>
    intro v2 u
    rw [fX7_add_13.eq_2]
    refine r_iload_n dX7_add_13 rfl ?_
    refine r_iconst dX7_add_14 (v := 4) rfl ?_
    refine r_icmp_ge dX7_add_15 (tgt := 48) rfl ?_ ?_
    · refine r_aload_n dX7_add_48 rfl ?_
      refine r_dup dX7_add_49 rfl ?_
      refine r_get 1 1 flX7_15 rfl (v := .int (gI u 1 1)) rfl dX7_add_50 ?_
      refine r_iconst dX7_add_53 (v := 4) rfl ?_
      refine r_iadd dX7_add_54 ?_
      refine r_put 1 1 fpX7_15 rfl rfl dX7_add_55 (r_nx (fun u1 => ?_))
      refine r_aload_n dX7_add_58 rfl ?_
      refine r_get 1 1 flX7_15 rfl (v := .int (gI u1 1 1)) rfl dX7_add_59 ?_
      exact r_ireturn rfl dX7_add_62
    · refine r_aload_n dX7_add_18 rfl ?_
      refine r_get 1 0 flX7_9 rfl (v := .ref 15) rfl dX7_add_19 ?_
      refine r_aload_n dX7_add_22 rfl ?_
      refine r_get 1 1 flX7_15 rfl (v := .int (gI u 1 1)) rfl dX7_add_23 ?_
      refine r_iload_n dX7_add_26 rfl ?_
      refine r_iadd dX7_add_27 ?_
      refine r_iload_n dX7_add_28 rfl ?_
      refine r_bipush dX7_add_29 (v := 24) rfl ?_
      refine r_bipush dX7_add_31 (v := 8) rfl ?_
      refine r_iload_n dX7_add_33 rfl ?_
      refine r_imul dX7_add_34 ?_
      refine r_isub dX7_add_35 ?_
      refine r_iushr dX7_add_36 ?_
      refine r_sipush dX7_add_37 (v := 255) rfl ?_
      refine r_iand dX7_add_40 ?_
      refine r_iast 15 rfl dX7_add_41 (r_nx (fun u2 => ?_))
      refine r_iinc dX7_add_42 (Nat.le_of_ble_eq_true rfl) rfl (v := v2 + 1) rfl (ls2 := [some (.ref 1), some (.int v1), some (.int (v2 + 1))]) rfl ?_
      refine r_goto dX7_add_45 (tgt := 13) rfl ?_
      exact ih (v2 + 1) u2
def fX7_add (v1 : Int32) (u : US) : Option (Int32 × US) :=
  (if (gI u 1 1) ≤ 76 then fX7_add_13 v1 FU 0 u else some ((-1), u))
set_option maxRecDepth 20000 in
theorem sX7_add (v1 : Int32) (u : US) : Sim tI mX7_add 0 (fX7_add v1 u) 0 [some (.ref 1), some (.int v1), none] [] u := by
  unfold fX7_add
  refine r_aload_n dX7_add_0 rfl ?_
  refine r_get 1 1 flX7_15 rfl (v := .int (gI u 1 1)) rfl dX7_add_1 ?_
  refine r_bipush dX7_add_4 (v := 76) rfl ?_
  refine r_icmp_le dX7_add_6 (tgt := 11) rfl ?_ ?_
  · refine r_iconst dX7_add_11 (v := 0) rfl ?_
    refine r_istore_n dX7_add_12 (Nat.le_of_ble_eq_true rfl) (ls2 := [some (.ref 1), some (.int v1), some (.int 0)]) rfl ?_
    exact sX7_add_13 v1 FU 0 u
  · refine r_iconst dX7_add_9 (v := -1) rfl ?_
    exact r_ireturn rfl dX7_add_10
theorem okX7_add (v1 : Int32) (u : US) : ∀ r, fX7_add v1 u = some r → MetC mX7_add 0 [.ref 1, .int v1] u (tI r) :=
  met_of (by decide +kernel) (Nat.le_of_ble_eq_true rfl) rfl (sX7_add v1 u)
def fX11_sign (v1 : Int32) (u : US) : Option (Int32 × US) :=
  oB (fX7_add v1 u) fun r1 u1 => some (r1, u1)
set_option maxRecDepth 20000 in
theorem sX11_sign (v1 : Int32) (u : US) : Sim tI mX11_sign 1 (fX11_sign v1 u) 0 [some (.ref 0), some (.int v1)] [] u := by
  unfold fX11_sign
  refine r_aload_n dX11_sign_0 rfl ?_
  refine r_get 0 0 flX11_10 rfl (v := .ref 1) rfl dX11_sign_1 ?_
  refine r_iload_n dX11_sign_4 rfl ?_
  refine c_VI (As := [.int v1]) kvX11_96 rfl (by decide) (okX7_add v1 u) rfl (Nat.le_of_ble_eq_true rfl) rfl dX11_sign_5 (fun r1 u1 => ?_)
  exact r_ireturn rfl dX11_sign_8
theorem okX11_sign (v1 : Int32) (u : US) : ∀ r, fX11_sign v1 u = some r → MetC mX11_sign 1 [.ref 0, .int v1] u (tI r) :=
  met_of (by decide +kernel) (Nat.le_of_ble_eq_true rfl) rfl (sX11_sign v1 u)
def fX9_besideOne_5 (v1 : Int32) : Nat → Int64 → Int32 → US → Option (Int64 × US)
  | 0, _, _, _ => none
  | n + 1, v2, v4, u => (if (4 : Int32) ≤ v4 then some (v2, u) else oB (fX8_fieldBeside v1 v4 u) fun r1 u1 => (if r1 = (-1) then fX9_besideOne_5 v1 n v2 (v4 + 1) u1 else fX9_besideOne_5 v1 n (v2 ||| (1 <<< ((r1).toInt64 &&& 63))) (v4 + 1) u1))
set_option maxRecDepth 20000 in
theorem sX9_besideOne_5 (v1 : Int32) : ∀ (n : Nat) (v2 : Int64) (v4 : Int32) (u : US), Sim tJ mX9_besideOne 2 (fX9_besideOne_5 v1 n v2 v4 u) 5 [some (.ref 10), some (.int v1), some (.long v2), none, some (.int v4), none] [] u := by
  intro n
  induction n with
  | zero =>
    intro v2 v4 u
    rw [fX9_besideOne_5.eq_1]
    exact r_none
  | succ n ih =>
    intro v2 v4 u
    rw [fX9_besideOne_5.eq_2]
    refine r_iload dX9_besideOne_5 rfl ?_
    refine r_iconst dX9_besideOne_7 (v := 4) rfl ?_
    refine r_icmp_ge dX9_besideOne_8 (tgt := 42) rfl ?_ ?_
    · refine r_lload_n dX9_besideOne_42 rfl ?_
      exact r_lreturn rfl dX9_besideOne_43
    · refine r_aload_n dX9_besideOne_11 rfl ?_
      refine r_get 10 0 flX9_15 rfl (v := .ref 3) rfl dX9_besideOne_12 ?_
      refine r_iload_n dX9_besideOne_15 rfl ?_
      refine r_iload dX9_besideOne_16 rfl ?_
      refine c_VI (As := [.int v1, .int v4]) kvX9_60 rfl (by decide) (okX8_fieldBeside v1 v4 u) rfl (Nat.le_of_ble_eq_true rfl) rfl dX9_besideOne_18 (fun r1 u1 => ?_)
      refine r_istore dX9_besideOne_21 (Nat.le_of_ble_eq_true rfl) (ls2 := [some (.ref 10), some (.int v1), some (.long v2), none, some (.int v4), some (.int r1)]) rfl ?_
      refine r_iload dX9_besideOne_23 rfl ?_
      refine r_iconst dX9_besideOne_25 (v := -1) rfl ?_
      refine r_icmp_eq dX9_besideOne_26 (tgt := 36) rfl ?_ ?_
      · refine r_iinc dX9_besideOne_36 (Nat.le_of_ble_eq_true rfl) rfl (v := v4 + 1) rfl (ls2 := [some (.ref 10), some (.int v1), some (.long v2), none, some (.int (v4 + 1)), some (.int r1)]) rfl ?_
        refine r_goto dX9_besideOne_39 (tgt := 5) rfl ?_
        refine r_mk [true, true, true, false, true, false] (ls2 := [some (.ref 10), some (.int v1), some (.long v2), none, some (.int (v4 + 1)), none]) rfl ?_
        exact ih v2 (v4 + 1) u1
      · refine r_lload_n dX9_besideOne_29 rfl ?_
        refine r_lconst dX9_besideOne_30 (v := 1) rfl ?_
        refine r_iload dX9_besideOne_31 rfl ?_
        refine r_lshl dX9_besideOne_33 ?_
        refine r_lor dX9_besideOne_34 ?_
        refine r_lstore_n dX9_besideOne_35 (Nat.le_of_ble_eq_true rfl) (ls2 := [some (.ref 10), some (.int v1), some (.long (v2 ||| (1 <<< ((r1).toInt64 &&& 63)))), none, some (.int v4), some (.int r1)]) rfl ?_
        refine r_iinc dX9_besideOne_36 (Nat.le_of_ble_eq_true rfl) rfl (v := v4 + 1) rfl (ls2 := [some (.ref 10), some (.int v1), some (.long (v2 ||| (1 <<< ((r1).toInt64 &&& 63)))), none, some (.int (v4 + 1)), some (.int r1)]) rfl ?_
        refine r_goto dX9_besideOne_39 (tgt := 5) rfl ?_
        refine r_mk [true, true, true, false, true, false] (ls2 := [some (.ref 10), some (.int v1), some (.long (v2 ||| (1 <<< ((r1).toInt64 &&& 63)))), none, some (.int (v4 + 1)), none]) rfl ?_
        exact ih (v2 ||| (1 <<< ((r1).toInt64 &&& 63))) (v4 + 1) u1
def fX9_besideOne (v1 : Int32) (u : US) : Option (Int64 × US) :=
  fX9_besideOne_5 v1 FU 0 0 u
set_option maxRecDepth 20000 in
theorem sX9_besideOne (v1 : Int32) (u : US) : Sim tJ mX9_besideOne 2 (fX9_besideOne v1 u) 0 [some (.ref 10), some (.int v1), none, none, none, none] [] u := by
  unfold fX9_besideOne
  refine r_lconst dX9_besideOne_0 (v := 0) rfl ?_
  refine r_lstore_n dX9_besideOne_1 (Nat.le_of_ble_eq_true rfl) (ls2 := [some (.ref 10), some (.int v1), some (.long 0), none, none, none]) rfl ?_
  refine r_iconst dX9_besideOne_2 (v := 0) rfl ?_
  refine r_istore dX9_besideOne_3 (Nat.le_of_ble_eq_true rfl) (ls2 := [some (.ref 10), some (.int v1), some (.long 0), none, some (.int 0), none]) rfl ?_
  exact sX9_besideOne_5 v1 FU 0 0 u
theorem okX9_besideOne (v1 : Int32) (u : US) : ∀ r, fX9_besideOne v1 u = some r → MetC mX9_besideOne 2 [.ref 10, .int v1] u (tJ r) :=
  met_of (by decide +kernel) (Nat.le_of_ble_eq_true rfl) rfl (sX9_besideOne v1 u)
def fX9_beside_5 (v1 : Int64) : Nat → Int64 → Int32 → US → Option (Int64 × US)
  | 0, _, _, _ => none
  | n + 1, v3, v5, u => oB (fX8_fields u) fun r1 u1 => (if r1 ≤ v5 then some (v3, u1) else (if (lg_cmp ((ushL v1 v5) &&& 1) 0) = 0 then fX9_beside_5 v1 n v3 (v5 + 1) u1 else oB (fX9_besideOne v5 u1) fun r2 u2 => fX9_beside_5 v1 n (v3 ||| r2) (v5 + 1) u2))
set_option maxRecDepth 20000 in
theorem sX9_beside_5 (v1 : Int64) : ∀ (n : Nat) (v3 : Int64) (v5 : Int32) (u : US), Sim tJ mX9_beside 3 (fX9_beside_5 v1 n v3 v5 u) 5 [some (.ref 10), some (.long v1), none, some (.long v3), none, some (.int v5)] [] u := by
  intro n
  induction n with
  | zero =>
    intro v3 v5 u
    rw [fX9_beside_5.eq_1]
    exact r_none
  | succ n ih =>
    intro v3 v5 u
    rw [fX9_beside_5.eq_2]
    refine r_iload dX9_beside_5 rfl ?_
    refine r_aload_n dX9_beside_7 rfl ?_
    refine r_get 10 0 flX9_15 rfl (v := .ref 3) rfl dX9_beside_8 ?_
    refine c_VI (As := []) kvX9_23 rfl (by decide) (okX8_fields u) rfl (Nat.le_of_ble_eq_true rfl) rfl dX9_beside_11 (fun r1 u1 => ?_)
    refine r_icmp_ge dX9_beside_14 (tgt := 43) rfl ?_ ?_
    · refine r_lload_n dX9_beside_43 rfl ?_
      exact r_lreturn rfl dX9_beside_44
    · refine r_lload_n dX9_beside_17 rfl ?_
      refine r_iload dX9_beside_18 rfl ?_
      refine r_lushr dX9_beside_20 ?_
      refine r_lconst dX9_beside_21 (v := 1) rfl ?_
      refine r_land dX9_beside_22 ?_
      refine r_lconst dX9_beside_23 (v := 0) rfl ?_
      refine r_lcmp dX9_beside_24 ?_
      refine r_if_eq dX9_beside_25 (tgt := 37) rfl ?_ ?_
      · refine r_iinc dX9_beside_37 (Nat.le_of_ble_eq_true rfl) rfl (v := v5 + 1) rfl (ls2 := [some (.ref 10), some (.long v1), none, some (.long v3), none, some (.int (v5 + 1))]) rfl ?_
        refine r_goto dX9_beside_40 (tgt := 5) rfl ?_
        exact ih v3 (v5 + 1) u1
      · refine r_lload_n dX9_beside_28 rfl ?_
        refine r_aload_n dX9_beside_29 rfl ?_
        refine r_iload dX9_beside_30 rfl ?_
        refine c_VJ (As := [.int v5]) kvX9_56 rfl (by decide) (okX9_besideOne v5 u1) rfl (Nat.le_of_ble_eq_true rfl) rfl dX9_beside_32 (fun r2 u2 => ?_)
        refine r_lor dX9_beside_35 ?_
        refine r_lstore_n dX9_beside_36 (Nat.le_of_ble_eq_true rfl) (ls2 := [some (.ref 10), some (.long v1), none, some (.long (v3 ||| r2)), none, some (.int v5)]) rfl ?_
        refine r_iinc dX9_beside_37 (Nat.le_of_ble_eq_true rfl) rfl (v := v5 + 1) rfl (ls2 := [some (.ref 10), some (.long v1), none, some (.long (v3 ||| r2)), none, some (.int (v5 + 1))]) rfl ?_
        refine r_goto dX9_beside_40 (tgt := 5) rfl ?_
        exact ih (v3 ||| r2) (v5 + 1) u2
def fX9_beside (v1 : Int64) (u : US) : Option (Int64 × US) :=
  fX9_beside_5 v1 FU 0 0 u
set_option maxRecDepth 20000 in
theorem sX9_beside (v1 : Int64) (u : US) : Sim tJ mX9_beside 3 (fX9_beside v1 u) 0 [some (.ref 10), some (.long v1), none, none, none, none] [] u := by
  unfold fX9_beside
  refine r_lconst dX9_beside_0 (v := 0) rfl ?_
  refine r_lstore_n dX9_beside_1 (Nat.le_of_ble_eq_true rfl) (ls2 := [some (.ref 10), some (.long v1), none, some (.long 0), none, none]) rfl ?_
  refine r_iconst dX9_beside_2 (v := 0) rfl ?_
  refine r_istore dX9_beside_3 (Nat.le_of_ble_eq_true rfl) (ls2 := [some (.ref 10), some (.long v1), none, some (.long 0), none, some (.int 0)]) rfl ?_
  exact sX9_beside_5 v1 FU 0 0 u
theorem okX9_beside (v1 : Int64) (u : US) : ∀ r, fX9_beside v1 u = some r → MetC mX9_beside 3 [.ref 10, .long v1] u (tJ r) :=
  met_of (by decide +kernel) (Nat.le_of_ble_eq_true rfl) rfl (sX9_beside v1 u)
def fX11_slips_63 (v1 : Int32) (v2 : Int32) (v3 : Int32) (v4 : Int32) : Nat → Int64 → Int32 → US → Option (Int32 × US)
  | 0, _, _, _ => none
  | n + 1, v5, v7, u => (if (60 : Int32) < v7 then some ((-2), u) else (if (lg_cmp v5 0) = 0 then some ((-2), u) else (if (lg_cmp ((ushL v5 v2) &&& 1) 0) = 0 then oB (fX9_beside v5 u) fun r1 u1 => oB (fX9_unseen 4 (((gI u1 4 4) + v7) + 1) v3 v4 u1) fun r2 u2 => fX11_slips_63 v1 v2 v3 v4 n ((v5 ||| r1) &&& r2) (v7 + 1) u2 else some (v7, u))))
set_option maxRecDepth 20000 in
theorem sX11_slips_63 (v1 : Int32) (v2 : Int32) (v3 : Int32) (v4 : Int32) : ∀ (n : Nat) (v5 : Int64) (v7 : Int32) (u : US), Sim tI mX11_slips 8 (fX11_slips_63 v1 v2 v3 v4 n v5 v7 u) 63 [some (.ref 0), some (.int v1), some (.int v2), some (.int v3), some (.int v4), some (.long v5), none, some (.int v7)] [] u := by
  intro n
  induction n with
  | zero =>
    intro v5 v7 u
    rw [fX11_slips_63.eq_1]
    exact r_none
  | succ n ih =>
    intro v5 v7 u
    rw [fX11_slips_63.eq_2]
    refine r_iload dX11_slips_63 rfl ?_
    refine r_bipush dX11_slips_65 (v := 60) rfl ?_
    refine r_icmp_gt dX11_slips_67 (tgt := 138) rfl ?_ ?_
    · refine r_bipush dX11_slips_138 (v := -2) rfl ?_
      exact r_ireturn rfl dX11_slips_140
    · refine r_lload dX11_slips_70 rfl ?_
      refine r_lconst dX11_slips_72 (v := 0) rfl ?_
      refine r_lcmp dX11_slips_73 ?_
      refine r_if_eq dX11_slips_74 (tgt := 138) rfl ?_ ?_
      · refine r_bipush dX11_slips_138 (v := -2) rfl ?_
        exact r_ireturn rfl dX11_slips_140
      · refine r_lload dX11_slips_77 rfl ?_
        refine r_iload_n dX11_slips_79 rfl ?_
        refine r_lushr dX11_slips_80 ?_
        refine r_lconst dX11_slips_81 (v := 1) rfl ?_
        refine r_land dX11_slips_82 ?_
        refine r_lconst dX11_slips_83 (v := 0) rfl ?_
        refine r_lcmp dX11_slips_84 ?_
        refine r_if_eq dX11_slips_85 (tgt := 91) rfl ?_ ?_
        · refine r_lload dX11_slips_91 rfl ?_
          refine r_aload_n dX11_slips_93 rfl ?_
          refine r_get 0 9 flX11_71 rfl (v := .ref 10) rfl dX11_slips_94 ?_
          refine r_lload dX11_slips_97 rfl ?_
          refine c_VJ (As := [.long v5]) kvX11_378 rfl (by decide) (okX9_beside v5 u) rfl (Nat.le_of_ble_eq_true rfl) rfl dX11_slips_99 (fun r1 u1 => ?_)
          refine r_lor dX11_slips_102 ?_
          refine r_aload_n dX11_slips_103 rfl ?_
          refine r_get 0 9 flX11_71 rfl (v := .ref 10) rfl dX11_slips_104 ?_
          refine r_aload_n dX11_slips_107 rfl ?_
          refine r_get 0 3 flX11_35 rfl (v := .ref 4) rfl dX11_slips_108 ?_
          refine r_aload_n dX11_slips_111 rfl ?_
          refine r_get 0 3 flX11_35 rfl (v := .ref 4) rfl dX11_slips_112 ?_
          refine r_get 4 4 flX11_280 rfl (v := .int (gI u1 4 4)) rfl dX11_slips_115 ?_
          refine r_iload dX11_slips_118 rfl ?_
          refine r_iadd dX11_slips_120 ?_
          refine r_iconst dX11_slips_121 (v := 1) rfl ?_
          refine r_iadd dX11_slips_122 ?_
          refine r_iload_n dX11_slips_123 rfl ?_
          refine r_iload dX11_slips_124 rfl ?_
          refine c_VJ (As := [.ref 4, .int (((gI u1 4 4) + v7) + 1), .int v3, .int v4]) kvX11_370 rfl (by decide) (okX9_unseen 4 (((gI u1 4 4) + v7) + 1) v3 v4 u1) rfl (Nat.le_of_ble_eq_true rfl) rfl dX11_slips_126 (fun r2 u2 => ?_)
          refine r_land dX11_slips_129 ?_
          refine r_lstore dX11_slips_130 (Nat.le_of_ble_eq_true rfl) (ls2 := [some (.ref 0), some (.int v1), some (.int v2), some (.int v3), some (.int v4), some (.long ((v5 ||| r1) &&& r2)), none, some (.int v7)]) rfl ?_
          refine r_iinc dX11_slips_132 (Nat.le_of_ble_eq_true rfl) rfl (v := v7 + 1) rfl (ls2 := [some (.ref 0), some (.int v1), some (.int v2), some (.int v3), some (.int v4), some (.long ((v5 ||| r1) &&& r2)), none, some (.int (v7 + 1))]) rfl ?_
          refine r_goto dX11_slips_135 (tgt := 63) rfl ?_
          exact ih ((v5 ||| r1) &&& r2) (v7 + 1) u2
        · refine r_iload dX11_slips_88 rfl ?_
          exact r_ireturn rfl dX11_slips_90
def fX11_slips (v1 : Int32) (v2 : Int32) (v3 : Int32) (v4 : Int32) (u : US) : Option (Int32 × US) :=
  oB (fX8_isField v1 u) fun r1 u1 => (if r1 = 0 then some ((-1), u1) else oB (fX8_isField v2 u1) fun r2 u2 => (if r2 = 0 then some ((-1), u2) else oB (fX11_isSort v3 v4 u2) fun r3 u3 => (if r3 = 0 then some ((-1), u3) else oB (fX9_unseen 4 (gI u3 4 4) v3 v4 u3) fun r4 u4 => fX11_slips_63 v1 v2 v3 v4 FU ((1 <<< ((v1).toInt64 &&& 63)) &&& r4) 0 u4)))
set_option maxRecDepth 20000 in
theorem sX11_slips (v1 : Int32) (v2 : Int32) (v3 : Int32) (v4 : Int32) (u : US) : Sim tI mX11_slips 8 (fX11_slips v1 v2 v3 v4 u) 0 [some (.ref 0), some (.int v1), some (.int v2), some (.int v3), some (.int v4), none, none, none] [] u := by
  unfold fX11_slips
  refine r_aload_n dX11_slips_0 rfl ?_
  refine r_get 0 2 flX11_28 rfl (v := .ref 3) rfl dX11_slips_1 ?_
  refine r_iload_n dX11_slips_4 rfl ?_
  refine c_VI (As := [.int v1]) kvX11_263 rfl (by decide) (okX8_isField v1 u) rfl (Nat.le_of_ble_eq_true rfl) rfl dX11_slips_5 (fun r1 u1 => ?_)
  refine r_if_eq dX11_slips_8 (tgt := 31) rfl ?_ ?_
  · refine r_iconst dX11_slips_31 (v := -1) rfl ?_
    exact r_ireturn rfl dX11_slips_32
  · refine r_aload_n dX11_slips_11 rfl ?_
    refine r_get 0 2 flX11_28 rfl (v := .ref 3) rfl dX11_slips_12 ?_
    refine r_iload_n dX11_slips_15 rfl ?_
    refine c_VI (As := [.int v2]) kvX11_263 rfl (by decide) (okX8_isField v2 u1) rfl (Nat.le_of_ble_eq_true rfl) rfl dX11_slips_16 (fun r2 u2 => ?_)
    refine r_if_eq dX11_slips_19 (tgt := 31) rfl ?_ ?_
    · refine r_iconst dX11_slips_31 (v := -1) rfl ?_
      exact r_ireturn rfl dX11_slips_32
    · refine r_iload_n dX11_slips_22 rfl ?_
      refine r_iload dX11_slips_23 rfl ?_
      refine c_SI (As := [.int v3, .int v4]) ksX11_367 (by decide) (okX11_isSort v3 v4 u2) rfl (Nat.le_of_ble_eq_true rfl) rfl dX11_slips_25 (fun r3 u3 => ?_)
      refine r_if_ne dX11_slips_28 (tgt := 33) rfl ?_ ?_
      · refine r_lconst dX11_slips_33 (v := 1) rfl ?_
        refine r_iload_n dX11_slips_34 rfl ?_
        refine r_lshl dX11_slips_35 ?_
        refine r_aload_n dX11_slips_36 rfl ?_
        refine r_get 0 9 flX11_71 rfl (v := .ref 10) rfl dX11_slips_37 ?_
        refine r_aload_n dX11_slips_40 rfl ?_
        refine r_get 0 3 flX11_35 rfl (v := .ref 4) rfl dX11_slips_41 ?_
        refine r_aload_n dX11_slips_44 rfl ?_
        refine r_get 0 3 flX11_35 rfl (v := .ref 4) rfl dX11_slips_45 ?_
        refine r_get 4 4 flX11_280 rfl (v := .int (gI u3 4 4)) rfl dX11_slips_48 ?_
        refine r_iload_n dX11_slips_51 rfl ?_
        refine r_iload dX11_slips_52 rfl ?_
        refine c_VJ (As := [.ref 4, .int (gI u3 4 4), .int v3, .int v4]) kvX11_370 rfl (by decide) (okX9_unseen 4 (gI u3 4 4) v3 v4 u3) rfl (Nat.le_of_ble_eq_true rfl) rfl dX11_slips_54 (fun r4 u4 => ?_)
        refine r_land dX11_slips_57 ?_
        refine r_lstore dX11_slips_58 (Nat.le_of_ble_eq_true rfl) (ls2 := [some (.ref 0), some (.int v1), some (.int v2), some (.int v3), some (.int v4), some (.long ((1 <<< ((v1).toInt64 &&& 63)) &&& r4)), none, none]) rfl ?_
        refine r_iconst dX11_slips_60 (v := 0) rfl ?_
        refine r_istore dX11_slips_61 (Nat.le_of_ble_eq_true rfl) (ls2 := [some (.ref 0), some (.int v1), some (.int v2), some (.int v3), some (.int v4), some (.long ((1 <<< ((v1).toInt64 &&& 63)) &&& r4)), none, some (.int 0)]) rfl ?_
        exact sX11_slips_63 v1 v2 v3 v4 FU ((1 <<< ((v1).toInt64 &&& 63)) &&& r4) 0 u4
      · refine r_iconst dX11_slips_31 (v := -1) rfl ?_
        exact r_ireturn rfl dX11_slips_32
theorem okX11_slips (v1 : Int32) (v2 : Int32) (v3 : Int32) (v4 : Int32) (u : US) : ∀ r, fX11_slips v1 v2 v3 v4 u = some r → MetC mX11_slips 8 [.ref 0, .int v1, .int v2, .int v3, .int v4] u (tI r) :=
  met_of (by decide +kernel) (Nat.le_of_ble_eq_true rfl) rfl (sX11_slips v1 v2 v3 v4 u)
def fX1_clear (v0 : Nat) (u : US) : Option (US) :=
  gd (isMom v0) (nx (sI u v0 3 0) fun u1 => nx (sI u1 v0 4 0) fun u2 => some u2)
set_option maxRecDepth 20000 in
theorem sX1_clear (v0 : Nat) (u : US) : Sim tV mX1_clear 0 (fX1_clear v0 u) 0 [some (.ref v0)] [] u := by
  unfold fX1_clear
  refine r_gd (fun h0 => ?_)
  refine r_aload_n dX1_clear_0 rfl ?_
  refine r_iconst dX1_clear_1 (v := 0) rfl ?_
  refine r_put v0 3 fpX1_21 (okO_mom h0) rfl dX1_clear_2 (r_nx (fun u1 => ?_))
  refine r_aload_n dX1_clear_5 rfl ?_
  refine r_iconst dX1_clear_6 (v := 0) rfl ?_
  refine r_put v0 4 fpX1_25 (okO_mom h0) rfl dX1_clear_7 (r_nx (fun u2 => ?_))
  exact r_return rfl dX1_clear_10
theorem okX1_clear (v0 : Nat) (u : US) : ∀ r, fX1_clear v0 u = some r → MetC mX1_clear 0 [.ref v0] u (tV r) :=
  met_of (by decide +kernel) (Nat.le_of_ble_eq_true rfl) rfl (sX1_clear v0 u)
def fX8_lay (v1 : Int32) (v2 : Int32) (u : US) : Option (US) :=
  nx (sI u 3 0 v1) fun u1 => nx (sI u1 3 1 v2) fun u2 => nx (sI u2 3 2 0) fun u3 => nx (sI u3 3 3 0) fun u4 => nx (sI u4 3 4 0) fun u5 => some u5
set_option maxRecDepth 20000 in
theorem sX8_lay (v1 : Int32) (v2 : Int32) (u : US) : Sim tV mX8_lay 0 (fX8_lay v1 v2 u) 0 [some (.ref 3), some (.int v1), some (.int v2)] [] u := by
  unfold fX8_lay
  refine r_aload_n dX8_lay_0 rfl ?_
  refine r_iload_n dX8_lay_1 rfl ?_
  refine r_put 3 0 fpX8_9 rfl rfl dX8_lay_2 (r_nx (fun u1 => ?_))
  refine r_aload_n dX8_lay_5 rfl ?_
  refine r_iload_n dX8_lay_6 rfl ?_
  refine r_put 3 1 fpX8_15 rfl rfl dX8_lay_7 (r_nx (fun u2 => ?_))
  refine r_aload_n dX8_lay_10 rfl ?_
  refine r_iconst dX8_lay_11 (v := 0) rfl ?_
  refine r_put 3 2 fpX8_44 rfl rfl dX8_lay_12 (r_nx (fun u3 => ?_))
  refine r_aload_n dX8_lay_15 rfl ?_
  refine r_iconst dX8_lay_16 (v := 0) rfl ?_
  refine r_put 3 3 fpX8_47 rfl rfl dX8_lay_17 (r_nx (fun u4 => ?_))
  refine r_aload_n dX8_lay_20 rfl ?_
  refine r_iconst dX8_lay_21 (v := 0) rfl ?_
  refine r_put 3 4 fpX8_50 rfl rfl dX8_lay_22 (r_nx (fun u5 => ?_))
  exact r_return rfl dX8_lay_25
theorem okX8_lay (v1 : Int32) (v2 : Int32) (u : US) : ∀ r, fX8_lay v1 v2 u = some r → MetC mX8_lay 0 [.ref 3, .int v1, .int v2] u (tV r) :=
  met_of (by decide +kernel) (Nat.le_of_ble_eq_true rfl) rfl (sX8_lay v1 v2 u)
def fX11_square (u : US) : Option (Int32 × US) :=
  oV (fX5_open 2 u) fun u1 => oB (fX5_signFrom 49 6 u1) fun r2 u2 => oB (fX5_signFrom 49 6 u2) fun r3 u3 => oB (fX5_answer ((1 + r2) * (1 + r3)) u3) fun r4 u4 => oV (fX7_clear u4) fun u5 => (if r4 ≤ 0 then some (r4, u5) else oV (fX8_lay (1 + r2) (1 + r3) u5) fun u6 => oV (fX1_clear 4 u6) fun u7 => oV (fX4_forgetAll u7) fun u8 => oB (fX10_clear u8) fun r9 u9 => some (r4, u9))
set_option maxRecDepth 20000 in
theorem sX11_square (u : US) : Sim tI mX11_square 3 (fX11_square u) 0 [some (.ref 0), none, none, none] [] u := by
  unfold fX11_square
  refine r_aload_n dX11_square_0 rfl ?_
  refine r_get 0 1 flX11_21 rfl (v := .ref 2) rfl dX11_square_1 ?_
  refine r_iconst dX11_square_4 (v := 2) rfl ?_
  refine c_VV (As := [.int 2]) kvX11_104 rfl (by decide) (okX5_open 2 u) rfl (Nat.le_of_ble_eq_true rfl) rfl dX11_square_5 (fun u1 => ?_)
  refine r_iconst dX11_square_8 (v := 1) rfl ?_
  refine r_aload_n dX11_square_9 rfl ?_
  refine r_get 0 1 flX11_21 rfl (v := .ref 2) rfl dX11_square_10 ?_
  refine r_bipush dX11_square_13 (v := 49) rfl ?_
  refine r_bipush dX11_square_15 (v := 6) rfl ?_
  refine c_VI (As := [.int 49, .int 6]) kvX11_108 rfl (by decide) (okX5_signFrom 49 6 u1) rfl (Nat.le_of_ble_eq_true rfl) rfl dX11_square_17 (fun r2 u2 => ?_)
  refine r_iadd dX11_square_20 ?_
  refine r_istore_n dX11_square_21 (Nat.le_of_ble_eq_true rfl) (ls2 := [some (.ref 0), some (.int (1 + r2)), none, none]) rfl ?_
  refine r_iconst dX11_square_22 (v := 1) rfl ?_
  refine r_aload_n dX11_square_23 rfl ?_
  refine r_get 0 1 flX11_21 rfl (v := .ref 2) rfl dX11_square_24 ?_
  refine r_bipush dX11_square_27 (v := 49) rfl ?_
  refine r_bipush dX11_square_29 (v := 6) rfl ?_
  refine c_VI (As := [.int 49, .int 6]) kvX11_108 rfl (by decide) (okX5_signFrom 49 6 u2) rfl (Nat.le_of_ble_eq_true rfl) rfl dX11_square_31 (fun r3 u3 => ?_)
  refine r_iadd dX11_square_34 ?_
  refine r_istore_n dX11_square_35 (Nat.le_of_ble_eq_true rfl) (ls2 := [some (.ref 0), some (.int (1 + r2)), some (.int (1 + r3)), none]) rfl ?_
  refine r_aload_n dX11_square_36 rfl ?_
  refine r_get 0 1 flX11_21 rfl (v := .ref 2) rfl dX11_square_37 ?_
  refine r_iload_n dX11_square_40 rfl ?_
  refine r_iload_n dX11_square_41 rfl ?_
  refine r_imul dX11_square_42 ?_
  refine c_VI (As := [.int ((1 + r2) * (1 + r3))]) kvX11_112 rfl (by decide) (okX5_answer ((1 + r2) * (1 + r3)) u3) rfl (Nat.le_of_ble_eq_true rfl) rfl dX11_square_43 (fun r4 u4 => ?_)
  refine r_istore_n dX11_square_46 (Nat.le_of_ble_eq_true rfl) (ls2 := [some (.ref 0), some (.int (1 + r2)), some (.int (1 + r3)), some (.int r4)]) rfl ?_
  refine r_aload_n dX11_square_47 rfl ?_
  refine r_get 0 0 flX11_10 rfl (v := .ref 1) rfl dX11_square_48 ?_
  refine c_VV (As := []) kvX11_115 rfl (by decide) (okX7_clear u4) rfl (Nat.le_of_ble_eq_true rfl) rfl dX11_square_51 (fun u5 => ?_)
  refine r_iload_n dX11_square_54 rfl ?_
  refine r_if_le dX11_square_55 (tgt := 89) rfl ?_ ?_
  · refine r_iload_n dX11_square_89 rfl ?_
    exact r_ireturn rfl dX11_square_90
  · refine r_aload_n dX11_square_58 rfl ?_
    refine r_get 0 2 flX11_28 rfl (v := .ref 3) rfl dX11_square_59 ?_
    refine r_iload_n dX11_square_62 rfl ?_
    refine r_iload_n dX11_square_63 rfl ?_
    refine c_VV (As := [.int (1 + r2), .int (1 + r3)]) kvX11_118 rfl (by decide) (okX8_lay (1 + r2) (1 + r3) u5) rfl (Nat.le_of_ble_eq_true rfl) rfl dX11_square_64 (fun u6 => ?_)
    refine r_aload_n dX11_square_67 rfl ?_
    refine r_get 0 3 flX11_35 rfl (v := .ref 4) rfl dX11_square_68 ?_
    refine c_VV (As := []) kvX11_122 rfl (by decide) (okX1_clear 4 u6) rfl (Nat.le_of_ble_eq_true rfl) rfl dX11_square_71 (fun u7 => ?_)
    refine r_aload_n dX11_square_74 rfl ?_
    refine r_get 0 6 flX11_48 rfl (v := .ref 7) rfl dX11_square_75 ?_
    refine c_VV (As := []) kvX11_123 rfl (by decide) (okX4_forgetAll u7) rfl (Nat.le_of_ble_eq_true rfl) rfl dX11_square_78 (fun u8 => ?_)
    refine r_aload_n dX11_square_81 rfl ?_
    refine r_get 0 10 flX11_78 rfl (v := .ref 11) rfl dX11_square_82 ?_
    refine c_VI (As := []) kvX11_126 rfl (by decide) (okX10_clear u8) rfl (Nat.le_of_ble_eq_true rfl) rfl dX11_square_85 (fun r9 u9 => ?_)
    refine r_pop dX11_square_88 rfl ?_
    refine r_iload_n dX11_square_89 rfl ?_
    exact r_ireturn rfl dX11_square_90
theorem okX11_square (u : US) : ∀ r, fX11_square u = some r → MetC mX11_square 3 [.ref 0] u (tI r) :=
  met_of (by decide +kernel) (Nat.le_of_ble_eq_true rfl) rfl (sX11_square u)
def fX9_lowest (v0 : Int64) (u : US) : Option (Int32 × US) :=
  oB (fJ13_bitCount_95d88 ((v0 &&& (-v0)) - 1) u) fun r1 u1 => some (r1, u1)
set_option maxRecDepth 20000 in
theorem sX9_lowest (v0 : Int64) (u : US) : Sim tI mX9_lowest 1 (fX9_lowest v0 u) 0 [some (.long v0), none] [] u := by
  unfold fX9_lowest
  refine r_lload_n dX9_lowest_0 rfl ?_
  refine r_lload_n dX9_lowest_1 rfl ?_
  refine r_lneg dX9_lowest_2 ?_
  refine r_land dX9_lowest_3 ?_
  refine r_lconst dX9_lowest_4 (v := 1) rfl ?_
  refine r_lsub dX9_lowest_5 ?_
  refine c_SI (As := [.long ((v0 &&& (-v0)) - 1)]) ksX9_87 (by decide) (okJ13_bitCount_95d88 ((v0 &&& (-v0)) - 1) u) rfl (Nat.le_of_ble_eq_true rfl) rfl dX9_lowest_6 (fun r1 u1 => ?_)
  exact r_ireturn rfl dX9_lowest_9
theorem okX9_lowest (v0 : Int64) (u : US) : ∀ r, fX9_lowest v0 u = some r → MetC mX9_lowest 1 [.long v0] u (tI r) :=
  met_of (by decide +kernel) (Nat.le_of_ble_eq_true rfl) rfl (sX9_lowest v0 u)
def fX9_stepsBetween_15 (v1 : Int64) (v3 : Int32) (v4 : Int32) : Nat → Int64 → Int64 → Int32 → US → Option (Int32 × US)
  | 0, _, _, _, _ => none
  | n + 1, v5, v7, v9, u => (if (36 : Int32) ≤ v9 then some ((-1), u) else (if (lg_cmp v7 0) = 0 then some ((-1), u) else gd (inb v9 36) (nx (sJ u 35 v9 v7) fun u1 => (if (lg_cmp ((ushL v7 v3) &&& 1) 0) = 0 then oB (fX9_beside v7 u1) fun r2 u2 => fX9_stepsBetween_15 v1 v3 v4 n (v5 &&& (v7 ^^^ (-1))) (r2 &&& (v5 &&& (v7 ^^^ (-1)))) (v9 + 1) u2 else some (v9, u1)))))
set_option maxRecDepth 20000 in
theorem sX9_stepsBetween_15 (v1 : Int64) (v3 : Int32) (v4 : Int32) : ∀ (n : Nat) (v5 : Int64) (v7 : Int64) (v9 : Int32) (u : US), Sim tI mX9_stepsBetween 4 (fX9_stepsBetween_15 v1 v3 v4 n v5 v7 v9 u) 15 [some (.ref 10), some (.long v1), none, some (.int v3), some (.int v4), some (.long v5), none, some (.long v7), none, some (.int v9)] [] u := by
  intro n
  induction n with
  | zero =>
    intro v5 v7 v9 u
    rw [fX9_stepsBetween_15.eq_1]
    exact r_none
  | succ n ih =>
    intro v5 v7 v9 u
    rw [fX9_stepsBetween_15.eq_2]
    refine r_iload dX9_stepsBetween_15 rfl ?_
    refine r_bipush dX9_stepsBetween_17 (v := 36) rfl ?_
    refine r_icmp_ge dX9_stepsBetween_19 (tgt := 80) rfl ?_ ?_
    · refine r_iconst dX9_stepsBetween_80 (v := -1) rfl ?_
      exact r_ireturn rfl dX9_stepsBetween_81
    · refine r_lload dX9_stepsBetween_22 rfl ?_
      refine r_lconst dX9_stepsBetween_24 (v := 0) rfl ?_
      refine r_lcmp dX9_stepsBetween_25 ?_
      refine r_if_eq dX9_stepsBetween_26 (tgt := 80) rfl ?_ ?_
      · refine r_iconst dX9_stepsBetween_80 (v := -1) rfl ?_
        exact r_ireturn rfl dX9_stepsBetween_81
      · refine r_aload_n dX9_stepsBetween_29 rfl ?_
        refine r_get 10 1 flX9_9 rfl (v := .ref 35) rfl dX9_stepsBetween_30 ?_
        refine r_iload dX9_stepsBetween_33 rfl ?_
        refine r_lload dX9_stepsBetween_35 rfl ?_
        refine r_last 35 rfl dX9_stepsBetween_37 (r_nx (fun u1 => ?_))
        refine r_lload dX9_stepsBetween_38 rfl ?_
        refine r_iload_n dX9_stepsBetween_40 rfl ?_
        refine r_lushr dX9_stepsBetween_41 ?_
        refine r_lconst dX9_stepsBetween_42 (v := 1) rfl ?_
        refine r_land dX9_stepsBetween_43 ?_
        refine r_lconst dX9_stepsBetween_44 (v := 0) rfl ?_
        refine r_lcmp dX9_stepsBetween_45 ?_
        refine r_if_eq dX9_stepsBetween_46 (tgt := 52) rfl ?_ ?_
        · refine r_lload dX9_stepsBetween_52 rfl ?_
          refine r_lload dX9_stepsBetween_54 rfl ?_
          refine r_ldc2 dX9_stepsBetween_56 kJX9_81 ?_
          refine r_lxor dX9_stepsBetween_59 ?_
          refine r_land dX9_stepsBetween_60 ?_
          refine r_lstore dX9_stepsBetween_61 (Nat.le_of_ble_eq_true rfl) (ls2 := [some (.ref 10), some (.long v1), none, some (.int v3), some (.int v4), some (.long (v5 &&& (v7 ^^^ (-1)))), none, some (.long v7), none, some (.int v9)]) rfl ?_
          refine r_aload_n dX9_stepsBetween_63 rfl ?_
          refine r_lload dX9_stepsBetween_64 rfl ?_
          refine c_VJ (As := [.long v7]) kvX9_83 rfl (by decide) (okX9_beside v7 u1) rfl (Nat.le_of_ble_eq_true rfl) rfl dX9_stepsBetween_66 (fun r2 u2 => ?_)
          refine r_lload dX9_stepsBetween_69 rfl ?_
          refine r_land dX9_stepsBetween_71 ?_
          refine r_lstore dX9_stepsBetween_72 (Nat.le_of_ble_eq_true rfl) (ls2 := [some (.ref 10), some (.long v1), none, some (.int v3), some (.int v4), some (.long (v5 &&& (v7 ^^^ (-1)))), none, some (.long (r2 &&& (v5 &&& (v7 ^^^ (-1))))), none, some (.int v9)]) rfl ?_
          refine r_iinc dX9_stepsBetween_74 (Nat.le_of_ble_eq_true rfl) rfl (v := v9 + 1) rfl (ls2 := [some (.ref 10), some (.long v1), none, some (.int v3), some (.int v4), some (.long (v5 &&& (v7 ^^^ (-1)))), none, some (.long (r2 &&& (v5 &&& (v7 ^^^ (-1))))), none, some (.int (v9 + 1))]) rfl ?_
          refine r_goto dX9_stepsBetween_77 (tgt := 15) rfl ?_
          exact ih (v5 &&& (v7 ^^^ (-1))) (r2 &&& (v5 &&& (v7 ^^^ (-1)))) (v9 + 1) u2
        · refine r_iload dX9_stepsBetween_49 rfl ?_
          exact r_ireturn rfl dX9_stepsBetween_51
def fX9_stepsBetween (v1 : Int64) (v3 : Int32) (v4 : Int32) (u : US) : Option (Int32 × US) :=
  fX9_stepsBetween_15 v1 v3 v4 FU v1 ((1 <<< ((v4).toInt64 &&& 63)) &&& v1) 0 u
set_option maxRecDepth 20000 in
theorem sX9_stepsBetween (v1 : Int64) (v3 : Int32) (v4 : Int32) (u : US) : Sim tI mX9_stepsBetween 4 (fX9_stepsBetween v1 v3 v4 u) 0 [some (.ref 10), some (.long v1), none, some (.int v3), some (.int v4), none, none, none, none, none] [] u := by
  unfold fX9_stepsBetween
  refine r_lload_n dX9_stepsBetween_0 rfl ?_
  refine r_lstore dX9_stepsBetween_1 (Nat.le_of_ble_eq_true rfl) (ls2 := [some (.ref 10), some (.long v1), none, some (.int v3), some (.int v4), some (.long v1), none, none, none, none]) rfl ?_
  refine r_lconst dX9_stepsBetween_3 (v := 1) rfl ?_
  refine r_iload dX9_stepsBetween_4 rfl ?_
  refine r_lshl dX9_stepsBetween_6 ?_
  refine r_lload dX9_stepsBetween_7 rfl ?_
  refine r_land dX9_stepsBetween_9 ?_
  refine r_lstore dX9_stepsBetween_10 (Nat.le_of_ble_eq_true rfl) (ls2 := [some (.ref 10), some (.long v1), none, some (.int v3), some (.int v4), some (.long v1), none, some (.long ((1 <<< ((v4).toInt64 &&& 63)) &&& v1)), none, none]) rfl ?_
  refine r_iconst dX9_stepsBetween_12 (v := 0) rfl ?_
  refine r_istore dX9_stepsBetween_13 (Nat.le_of_ble_eq_true rfl) (ls2 := [some (.ref 10), some (.long v1), none, some (.int v3), some (.int v4), some (.long v1), none, some (.long ((1 <<< ((v4).toInt64 &&& 63)) &&& v1)), none, some (.int 0)]) rfl ?_
  exact sX9_stepsBetween_15 v1 v3 v4 FU v1 ((1 <<< ((v4).toInt64 &&& 63)) &&& v1) 0 u
theorem okX9_stepsBetween (v1 : Int64) (v3 : Int32) (v4 : Int32) (u : US) : ∀ r, fX9_stepsBetween v1 v3 v4 u = some r → MetC mX9_stepsBetween 4 [.ref 10, .long v1, .int v3, .int v4] u (tI r) :=
  met_of (by decide +kernel) (Nat.le_of_ble_eq_true rfl) rfl (sX9_stepsBetween v1 v3 v4 u)
def fX9_tellShortest_35 (v1 : Int64) (v3 : Int32) (v4 : Int32) : Nat → Int32 → Int32 → Int32 → US → Option (Int32 × US)
  | 0, _, _, _, _ => none
  | n + 1, v6, v7, v8, u => (if v8 < 0 then some (v6, u) else oB (fX9_besideOne v7 u) fun r1 u1 => gd (inb v8 36) (oB (fX9_lowest (r1 &&& (gJ u1 35 v8)) u1) fun r2 u2 => oV (fX2_add ((r2 : Int32).toInt64) u2) fun u3 => fX9_tellShortest_35 v1 v3 v4 n v6 r2 (v8 + (-1)) u3))
set_option maxRecDepth 20000 in
theorem sX9_tellShortest_35 (v1 : Int64) (v3 : Int32) (v4 : Int32) : ∀ (n : Nat) (v6 : Int32) (v7 : Int32) (v8 : Int32) (u : US), Sim tI mX9_tellShortest 5 (fX9_tellShortest_35 v1 v3 v4 n v6 v7 v8 u) 35 [some (.ref 10), some (.long v1), none, some (.int v3), some (.int v4), some (.ref 8), some (.int v6), some (.int v7), some (.int v8)] [] u := by
  intro n
  induction n with
  | zero =>
    intro v6 v7 v8 u
    rw [fX9_tellShortest_35.eq_1]
    exact r_none
  | succ n ih =>
    intro v6 v7 v8 u
    rw [fX9_tellShortest_35.eq_2]
    refine r_iload dX9_tellShortest_35 rfl ?_
    refine r_if_lt dX9_tellShortest_37 (tgt := 73) rfl ?_ ?_
    · refine r_iload dX9_tellShortest_73 rfl ?_
      exact r_ireturn rfl dX9_tellShortest_75
    · refine r_aload_n dX9_tellShortest_40 rfl ?_
      refine r_iload dX9_tellShortest_41 rfl ?_
      refine c_VJ (As := [.int v7]) kvX9_56 rfl (by decide) (okX9_besideOne v7 u) rfl (Nat.le_of_ble_eq_true rfl) rfl dX9_tellShortest_43 (fun r1 u1 => ?_)
      refine r_aload_n dX9_tellShortest_46 rfl ?_
      refine r_get 10 1 flX9_9 rfl (v := .ref 35) rfl dX9_tellShortest_47 ?_
      refine r_iload dX9_tellShortest_50 rfl ?_
      refine r_lald 35 rfl dX9_tellShortest_52 ?_
      refine r_land dX9_tellShortest_53 ?_
      refine c_SI (As := [.long (r1 &&& (gJ u1 35 v8))]) ksX9_74 (by decide) (okX9_lowest (r1 &&& (gJ u1 35 v8)) u1) rfl (Nat.le_of_ble_eq_true rfl) rfl dX9_tellShortest_54 (fun r2 u2 => ?_)
      refine r_istore dX9_tellShortest_57 (Nat.le_of_ble_eq_true rfl) (ls2 := [some (.ref 10), some (.long v1), none, some (.int v3), some (.int v4), some (.ref 8), some (.int v6), some (.int r2), some (.int v8)]) rfl ?_
      refine r_aload dX9_tellShortest_59 rfl ?_
      refine r_iload dX9_tellShortest_61 rfl ?_
      refine r_i2l dX9_tellShortest_63 ?_
      refine c_VV (As := [.long ((r2 : Int32).toInt64)]) kvX9_78 rfl (by decide) (okX2_add ((r2 : Int32).toInt64) u2) rfl (Nat.le_of_ble_eq_true rfl) rfl dX9_tellShortest_64 (fun u3 => ?_)
      refine r_iinc dX9_tellShortest_67 (Nat.le_of_ble_eq_true rfl) rfl (v := v8 + (-1)) rfl (ls2 := [some (.ref 10), some (.long v1), none, some (.int v3), some (.int v4), some (.ref 8), some (.int v6), some (.int r2), some (.int (v8 + (-1)))]) rfl ?_
      refine r_goto dX9_tellShortest_70 (tgt := 35) rfl ?_
      exact ih v6 r2 (v8 + (-1)) u3
def fX9_tellShortest (v1 : Int64) (v3 : Int32) (v4 : Int32) (u : US) : Option (Int32 × US) :=
  oB (fX9_stepsBetween v1 v3 v4 u) fun r1 u1 => (if r1 = (-1) then some ((-2), u1) else oV (fX2_tellOne ((v3 : Int32).toInt64) u1) fun u2 => fX9_tellShortest_35 v1 v3 v4 FU r1 v3 (r1 - 1) u2)
set_option maxRecDepth 20000 in
theorem sX9_tellShortest (v1 : Int64) (v3 : Int32) (v4 : Int32) (u : US) : Sim tI mX9_tellShortest 5 (fX9_tellShortest v1 v3 v4 u) 0 [some (.ref 10), some (.long v1), none, some (.int v3), some (.int v4), some (.ref 8), none, none, none] [] u := by
  unfold fX9_tellShortest
  refine r_aload_n dX9_tellShortest_0 rfl ?_
  refine r_lload_n dX9_tellShortest_1 rfl ?_
  refine r_iload_n dX9_tellShortest_2 rfl ?_
  refine r_iload dX9_tellShortest_3 rfl ?_
  refine c_VI (As := [.long v1, .int v3, .int v4]) kvX9_64 rfl (by decide) (okX9_stepsBetween v1 v3 v4 u) rfl (Nat.le_of_ble_eq_true rfl) rfl dX9_tellShortest_5 (fun r1 u1 => ?_)
  refine r_istore dX9_tellShortest_8 (Nat.le_of_ble_eq_true rfl) (ls2 := [some (.ref 10), some (.long v1), none, some (.int v3), some (.int v4), some (.ref 8), some (.int r1), none, none]) rfl ?_
  refine r_iload dX9_tellShortest_10 rfl ?_
  refine r_iconst dX9_tellShortest_12 (v := -1) rfl ?_
  refine r_icmp_ne dX9_tellShortest_13 (tgt := 19) rfl ?_ ?_
  · refine r_aload dX9_tellShortest_19 rfl ?_
    refine r_iload_n dX9_tellShortest_21 rfl ?_
    refine r_i2l dX9_tellShortest_22 ?_
    refine c_VV (As := [.long ((v3 : Int32).toInt64)]) kvX9_68 rfl (by decide) (okX2_tellOne ((v3 : Int32).toInt64) u1) rfl (Nat.le_of_ble_eq_true rfl) rfl dX9_tellShortest_23 (fun u2 => ?_)
    refine r_iload_n dX9_tellShortest_26 rfl ?_
    refine r_istore dX9_tellShortest_27 (Nat.le_of_ble_eq_true rfl) (ls2 := [some (.ref 10), some (.long v1), none, some (.int v3), some (.int v4), some (.ref 8), some (.int r1), some (.int v3), none]) rfl ?_
    refine r_iload dX9_tellShortest_29 rfl ?_
    refine r_iconst dX9_tellShortest_31 (v := 1) rfl ?_
    refine r_isub dX9_tellShortest_32 ?_
    refine r_istore dX9_tellShortest_33 (Nat.le_of_ble_eq_true rfl) (ls2 := [some (.ref 10), some (.long v1), none, some (.int v3), some (.int v4), some (.ref 8), some (.int r1), some (.int v3), some (.int (r1 - 1))]) rfl ?_
    exact sX9_tellShortest_35 v1 v3 v4 FU r1 v3 (r1 - 1) u2
  · refine r_bipush dX9_tellShortest_16 (v := -2) rfl ?_
    exact r_ireturn rfl dX9_tellShortest_18
theorem okX9_tellShortest (v1 : Int64) (v3 : Int32) (v4 : Int32) (u : US) : ∀ r, fX9_tellShortest v1 v3 v4 u = some r → MetC mX9_tellShortest 5 [.ref 10, .long v1, .int v3, .int v4, .ref 8] u (tI r) :=
  met_of (by decide +kernel) (Nat.le_of_ble_eq_true rfl) rfl (sX9_tellShortest v1 v3 v4 u)
def fX11_steals (v1 : Int32) (v2 : Int32) (v3 : Int32) (v4 : Int32) (u : US) : Option (Int32 × US) :=
  oB (fX8_isField v1 u) fun r1 u1 => (if r1 = 0 then some ((-1), u1) else oB (fX8_isField v2 u1) fun r2 u2 => (if r2 = 0 then some ((-1), u2) else oB (fX11_isSort v3 v4 u2) fun r3 u3 => (if r3 = 0 then some ((-1), u3) else oB (fX9_unseen 4 (gI u3 4 4) v3 v4 u3) fun r4 u4 => oB (fX9_tellShortest r4 v1 v2 u4) fun r5 u5 => some (r5, u5))))
set_option maxRecDepth 20000 in
theorem sX11_steals (v1 : Int32) (v2 : Int32) (v3 : Int32) (v4 : Int32) (u : US) : Sim tI mX11_steals 8 (fX11_steals v1 v2 v3 v4 u) 0 [some (.ref 0), some (.int v1), some (.int v2), some (.int v3), some (.int v4)] [] u := by
  unfold fX11_steals
  refine r_aload_n dX11_steals_0 rfl ?_
  refine r_get 0 2 flX11_28 rfl (v := .ref 3) rfl dX11_steals_1 ?_
  refine r_iload_n dX11_steals_4 rfl ?_
  refine c_VI (As := [.int v1]) kvX11_263 rfl (by decide) (okX8_isField v1 u) rfl (Nat.le_of_ble_eq_true rfl) rfl dX11_steals_5 (fun r1 u1 => ?_)
  refine r_if_eq dX11_steals_8 (tgt := 31) rfl ?_ ?_
  · refine r_iconst dX11_steals_31 (v := -1) rfl ?_
    exact r_ireturn rfl dX11_steals_32
  · refine r_aload_n dX11_steals_11 rfl ?_
    refine r_get 0 2 flX11_28 rfl (v := .ref 3) rfl dX11_steals_12 ?_
    refine r_iload_n dX11_steals_15 rfl ?_
    refine c_VI (As := [.int v2]) kvX11_263 rfl (by decide) (okX8_isField v2 u1) rfl (Nat.le_of_ble_eq_true rfl) rfl dX11_steals_16 (fun r2 u2 => ?_)
    refine r_if_eq dX11_steals_19 (tgt := 31) rfl ?_ ?_
    · refine r_iconst dX11_steals_31 (v := -1) rfl ?_
      exact r_ireturn rfl dX11_steals_32
    · refine r_iload_n dX11_steals_22 rfl ?_
      refine r_iload dX11_steals_23 rfl ?_
      refine c_SI (As := [.int v3, .int v4]) ksX11_367 (by decide) (okX11_isSort v3 v4 u2) rfl (Nat.le_of_ble_eq_true rfl) rfl dX11_steals_25 (fun r3 u3 => ?_)
      refine r_if_ne dX11_steals_28 (tgt := 33) rfl ?_ ?_
      · refine r_aload_n dX11_steals_33 rfl ?_
        refine r_get 0 9 flX11_71 rfl (v := .ref 10) rfl dX11_steals_34 ?_
        refine r_aload_n dX11_steals_37 rfl ?_
        refine r_get 0 9 flX11_71 rfl (v := .ref 10) rfl dX11_steals_38 ?_
        refine r_aload_n dX11_steals_41 rfl ?_
        refine r_get 0 3 flX11_35 rfl (v := .ref 4) rfl dX11_steals_42 ?_
        refine r_aload_n dX11_steals_45 rfl ?_
        refine r_get 0 3 flX11_35 rfl (v := .ref 4) rfl dX11_steals_46 ?_
        refine r_get 4 4 flX11_280 rfl (v := .int (gI u3 4 4)) rfl dX11_steals_49 ?_
        refine r_iload_n dX11_steals_52 rfl ?_
        refine r_iload dX11_steals_53 rfl ?_
        refine c_VJ (As := [.ref 4, .int (gI u3 4 4), .int v3, .int v4]) kvX11_370 rfl (by decide) (okX9_unseen 4 (gI u3 4 4) v3 v4 u3) rfl (Nat.le_of_ble_eq_true rfl) rfl dX11_steals_55 (fun r4 u4 => ?_)
        refine r_iload_n dX11_steals_58 rfl ?_
        refine r_iload_n dX11_steals_59 rfl ?_
        refine r_aload_n dX11_steals_60 rfl ?_
        refine r_get 0 7 flX11_55 rfl (v := .ref 8) rfl dX11_steals_61 ?_
        refine c_VI (As := [.long r4, .int v1, .int v2, .ref 8]) kvX11_374 rfl (by decide) (okX9_tellShortest r4 v1 v2 u4) rfl (Nat.le_of_ble_eq_true rfl) rfl dX11_steals_64 (fun r5 u5 => ?_)
        exact r_ireturn rfl dX11_steals_67
      · refine r_iconst dX11_steals_31 (v := -1) rfl ?_
        exact r_ireturn rfl dX11_steals_32
theorem okX11_steals (v1 : Int32) (v2 : Int32) (v3 : Int32) (v4 : Int32) (u : US) : ∀ r, fX11_steals v1 v2 v3 v4 u = some r → MetC mX11_steals 8 [.ref 0, .int v1, .int v2, .int v3, .int v4] u (tI r) :=
  met_of (by decide +kernel) (Nat.le_of_ble_eq_true rfl) rfl (sX11_steals v1 v2 v3 v4 u)
def fX11_takes (v1 : Int32) (u : US) : Option (Int32 × US) :=
  oV (fX1_copy 5 4 u) fun u1 => oB (fX11_takeDown v1 u1) fun r2 u2 => oB (fX11_remembered r2 u2) fun r3 u3 => some (r3, u3)
set_option maxRecDepth 20000 in
theorem sX11_takes (v1 : Int32) (u : US) : Sim tI mX11_takes 8 (fX11_takes v1 u) 0 [some (.ref 0), some (.int v1)] [] u := by
  unfold fX11_takes
  refine r_aload_n dX11_takes_0 rfl ?_
  refine r_get 0 4 flX11_39 rfl (v := .ref 5) rfl dX11_takes_1 ?_
  refine r_aload_n dX11_takes_4 rfl ?_
  refine r_get 0 3 flX11_35 rfl (v := .ref 4) rfl dX11_takes_5 ?_
  refine c_VV (As := [.ref 4]) kvX11_231 rfl (by decide) (okX1_copy 5 4 u) rfl (Nat.le_of_ble_eq_true rfl) rfl dX11_takes_8 (fun u1 => ?_)
  refine r_aload_n dX11_takes_11 rfl ?_
  refine r_aload_n dX11_takes_12 rfl ?_
  refine r_iload_n dX11_takes_13 rfl ?_
  refine c_VI (As := [.int v1]) kvX11_241 rfl (by decide) (okX11_takeDown v1 u1) rfl (Nat.le_of_ble_eq_true rfl) rfl dX11_takes_14 (fun r2 u2 => ?_)
  refine c_VI (As := [.int r2]) kvX11_238 rfl (by decide) (okX11_remembered r2 u2) rfl (Nat.le_of_ble_eq_true rfl) rfl dX11_takes_17 (fun r3 u3 => ?_)
  exact r_ireturn rfl dX11_takes_20
theorem okX11_takes (v1 : Int32) (u : US) : ∀ r, fX11_takes v1 u = some r → MetC mX11_takes 8 [.ref 0, .int v1] u (tI r) :=
  met_of (by decide +kernel) (Nat.le_of_ble_eq_true rfl) rfl (sX11_takes v1 u)
def fX8_roomsSeeing_5 (v1 : Nat) (v2 : Int32) : Nat → Int32 → Int32 → US → Option (Int32 × US)
  | 0, _, _, _ => none
  | n + 1, v3, v4, u => (if (gI u 3 4) ≤ v4 then some (v3, u) else oB (fX8_seenOf v1 v4 (1 <<< (v2 &&& 31)) u) fun r1 u1 => (if r1 = 0 then fX8_roomsSeeing_5 v1 v2 n v3 (v4 + 1) u1 else fX8_roomsSeeing_5 v1 v2 n (v3 ||| (1 <<< (v4 &&& 31))) (v4 + 1) u1))
set_option maxRecDepth 20000 in
theorem sX8_roomsSeeing_5 (v1 : Nat) (v2 : Int32) (h1 : isMom v1 = true) : ∀ (n : Nat) (v3 : Int32) (v4 : Int32) (u : US), Sim tI mX8_roomsSeeing 8 (fX8_roomsSeeing_5 v1 v2 n v3 v4 u) 5 [some (.ref 3), some (.ref v1), some (.int v2), some (.int v3), some (.int v4)] [] u := by
  intro n
  induction n with
  | zero =>
    intro v3 v4 u
    rw [fX8_roomsSeeing_5.eq_1]
    exact r_none
  | succ n ih =>
    intro v3 v4 u
    rw [fX8_roomsSeeing_5.eq_2]
    refine r_iload dX8_roomsSeeing_5 rfl ?_
    refine r_aload_n dX8_roomsSeeing_7 rfl ?_
    refine r_get 3 4 flX8_50 rfl (v := .int (gI u 3 4)) rfl dX8_roomsSeeing_8 ?_
    refine r_icmp_ge dX8_roomsSeeing_11 (tgt := 40) rfl ?_ ?_
    · refine r_iload_n dX8_roomsSeeing_40 rfl ?_
      exact r_ireturn rfl dX8_roomsSeeing_41
    · refine r_aload_n dX8_roomsSeeing_14 rfl ?_
      refine r_aload_n dX8_roomsSeeing_15 rfl ?_
      refine r_iload dX8_roomsSeeing_16 rfl ?_
      refine r_iconst dX8_roomsSeeing_18 (v := 1) rfl ?_
      refine r_iload_n dX8_roomsSeeing_19 rfl ?_
      refine r_ishl dX8_roomsSeeing_20 ?_
      refine c_VI (As := [.ref v1, .int v4, .int (1 <<< (v2 &&& 31))]) kvX8_161 rfl (by decide) (okX8_seenOf v1 v4 (1 <<< (v2 &&& 31)) u) rfl (Nat.le_of_ble_eq_true rfl) rfl dX8_roomsSeeing_21 (fun r1 u1 => ?_)
      refine r_if_eq dX8_roomsSeeing_24 (tgt := 34) rfl ?_ ?_
      · refine r_iinc dX8_roomsSeeing_34 (Nat.le_of_ble_eq_true rfl) rfl (v := v4 + 1) rfl (ls2 := [some (.ref 3), some (.ref v1), some (.int v2), some (.int v3), some (.int (v4 + 1))]) rfl ?_
        refine r_goto dX8_roomsSeeing_37 (tgt := 5) rfl ?_
        exact ih v3 (v4 + 1) u1
      · refine r_iload_n dX8_roomsSeeing_27 rfl ?_
        refine r_iconst dX8_roomsSeeing_28 (v := 1) rfl ?_
        refine r_iload dX8_roomsSeeing_29 rfl ?_
        refine r_ishl dX8_roomsSeeing_31 ?_
        refine r_ior dX8_roomsSeeing_32 ?_
        refine r_istore_n dX8_roomsSeeing_33 (Nat.le_of_ble_eq_true rfl) (ls2 := [some (.ref 3), some (.ref v1), some (.int v2), some (.int (v3 ||| (1 <<< (v4 &&& 31)))), some (.int v4)]) rfl ?_
        refine r_iinc dX8_roomsSeeing_34 (Nat.le_of_ble_eq_true rfl) rfl (v := v4 + 1) rfl (ls2 := [some (.ref 3), some (.ref v1), some (.int v2), some (.int (v3 ||| (1 <<< (v4 &&& 31)))), some (.int (v4 + 1))]) rfl ?_
        refine r_goto dX8_roomsSeeing_37 (tgt := 5) rfl ?_
        exact ih (v3 ||| (1 <<< (v4 &&& 31))) (v4 + 1) u1
def fX8_roomsSeeing (v1 : Nat) (v2 : Int32) (u : US) : Option (Int32 × US) :=
  gd (isMom v1) (fX8_roomsSeeing_5 v1 v2 FU 0 0 u)
set_option maxRecDepth 20000 in
theorem sX8_roomsSeeing (v1 : Nat) (v2 : Int32) (u : US) : Sim tI mX8_roomsSeeing 8 (fX8_roomsSeeing v1 v2 u) 0 [some (.ref 3), some (.ref v1), some (.int v2), none, none] [] u := by
  unfold fX8_roomsSeeing
  refine r_gd (fun h1 => ?_)
  refine r_iconst dX8_roomsSeeing_0 (v := 0) rfl ?_
  refine r_istore_n dX8_roomsSeeing_1 (Nat.le_of_ble_eq_true rfl) (ls2 := [some (.ref 3), some (.ref v1), some (.int v2), some (.int 0), none]) rfl ?_
  refine r_iconst dX8_roomsSeeing_2 (v := 0) rfl ?_
  refine r_istore dX8_roomsSeeing_3 (Nat.le_of_ble_eq_true rfl) (ls2 := [some (.ref 3), some (.ref v1), some (.int v2), some (.int 0), some (.int 0)]) rfl ?_
  exact sX8_roomsSeeing_5 v1 v2 h1 FU 0 0 u
theorem okX8_roomsSeeing (v1 : Nat) (v2 : Int32) (u : US) : ∀ r, fX8_roomsSeeing v1 v2 u = some r → MetC mX8_roomsSeeing 8 [.ref 3, .ref v1, .int v2] u (tI r) :=
  met_of (by decide +kernel) (Nat.le_of_ble_eq_true rfl) rfl (sX8_roomsSeeing v1 v2 u)
def fX8_readThings_89 (v2 : Nat) (v3 : Int32) (s1 : Int32) (u : US) : Option (Int32 × US) :=
  oB (fX5_demand s1 u) fun r1 u1 => oB (fX5_answer (v3 - (gI u1 3 2)) u1) fun r2 u2 => nx (sI u2 3 2 ((gI u2 3 2) + (if (0 : Int32) < r2 then r2 else 0))) fun u3 => some (r2, u3)
set_option maxRecDepth 20000 in
theorem sX8_readThings_89 (v2 : Nat) (h2 : isMom v2 = true) (v3 : Int32) (s1 : Int32) (u : US) : Sim tI mX8_readThings 5 (fX8_readThings_89 v2 v3 s1 u) 89 [some (.ref 3), some (.ref 2), some (.ref v2), some (.int v3), none, none] [.int s1, .ref 2] u := by
  unfold fX8_readThings_89
  refine c_VI (As := [.int s1]) kvX8_91 rfl (by decide) (okX5_demand s1 u) rfl (Nat.le_of_ble_eq_true rfl) rfl dX8_readThings_89 (fun r1 u1 => ?_)
  refine r_pop dX8_readThings_92 rfl ?_
  refine r_aload_n dX8_readThings_93 rfl ?_
  refine r_iload_n dX8_readThings_94 rfl ?_
  refine r_aload_n dX8_readThings_95 rfl ?_
  refine r_get 3 2 flX8_44 rfl (v := .int (gI u1 3 2)) rfl dX8_readThings_96 ?_
  refine r_isub dX8_readThings_99 ?_
  refine c_VI (As := [.int (v3 - (gI u1 3 2))]) kvX8_95 rfl (by decide) (okX5_answer (v3 - (gI u1 3 2)) u1) rfl (Nat.le_of_ble_eq_true rfl) rfl dX8_readThings_100 (fun r2 u2 => ?_)
  refine r_istore dX8_readThings_103 (Nat.le_of_ble_eq_true rfl) (ls2 := [some (.ref 3), some (.ref 2), some (.ref v2), some (.int v3), none, some (.int r2)]) rfl ?_
  refine r_aload_n dX8_readThings_105 rfl ?_
  refine r_dup dX8_readThings_106 rfl ?_
  refine r_get 3 2 flX8_44 rfl (v := .int (gI u2 3 2)) rfl dX8_readThings_107 ?_
  refine r_iconst dX8_readThings_110 (v := 0) rfl ?_
  refine r_iload dX8_readThings_111 rfl ?_
  refine r_max kmX8_98 ktMath_max knMath kcMath_max (by decide) (Nat.le_of_ble_eq_true rfl) dX8_readThings_113 ?_
  refine r_iadd dX8_readThings_116 ?_
  refine r_put 3 2 fpX8_44 rfl rfl dX8_readThings_117 (r_nx (fun u3 => ?_))
  refine r_iload dX8_readThings_120 rfl ?_
  exact r_ireturn rfl dX8_readThings_122
def fX8_readThings_78 (v2 : Nat) (v3 : Int32) (v4 : Int32) (u : US) : Option (Int32 × US) :=
  (if v4 = 0 then fX8_readThings_89 v2 v3 1 u else fX8_readThings_89 v2 v3 0 u)
set_option maxRecDepth 20000 in
theorem sX8_readThings_78 (v2 : Nat) (h2 : isMom v2 = true) (v3 : Int32) (v4 : Int32) (u : US) : Sim tI mX8_readThings 5 (fX8_readThings_78 v2 v3 v4 u) 78 [some (.ref 3), some (.ref 2), some (.ref v2), some (.int v3), some (.int v4), none] [] u := by
  unfold fX8_readThings_78
  refine r_aload_n dX8_readThings_78 rfl ?_
  refine r_iload dX8_readThings_79 rfl ?_
  refine r_if_ne dX8_readThings_81 (tgt := 88) rfl ?_ ?_
  · refine r_iconst dX8_readThings_88 (v := 0) rfl ?_
    refine r_mk [true, true, true, true, false, false] (ls2 := [some (.ref 3), some (.ref 2), some (.ref v2), some (.int v3), none, none]) rfl ?_
    exact sX8_readThings_89 v2 h2 v3 0 u
  · refine r_iconst dX8_readThings_84 (v := 1) rfl ?_
    refine r_goto dX8_readThings_85 (tgt := 89) rfl ?_
    refine r_mk [true, true, true, true, false, false] (ls2 := [some (.ref 3), some (.ref 2), some (.ref v2), some (.int v3), none, none]) rfl ?_
    exact sX8_readThings_89 v2 h2 v3 1 u
def fX8_readThings_8 (v2 : Nat) : Nat → Int32 → Int32 → US → Option (Int32 × US)
  | 0, _, _, _ => none
  | n + 1, v3, v4, u => (if v4 = 0 then fX8_readThings_78 v2 v3 v4 u else (if (8 : Int32) ≤ v3 then fX8_readThings_78 v2 v3 v4 u else oB (fX5_signFrom 97 8 u) fun r1 u1 => gd (inb v3 8) (nx (sA u1 16 v3 r1) fun u2 => oB (fX5_digit 10 u2) fun r3 u3 => gd (inb v3 8) (nx (sA u3 17 v3 r3) fun u4 => oB (fX8_readField u4) fun r5 u5 => gd (inb v3 (ln (fpt v2 0))) (nx (sA u5 (fpt v2 0) v3 r5) fun u6 => oB (fX5_heading u6) fun r7 u7 => gd (inb v3 (ln (fpt v2 1))) (nx (sA u7 (fpt v2 1) v3 r7) fun u8 => oB (fX5_another u8) fun r9 u9 => fX8_readThings_8 v2 n (v3 + 1) r9 u9))))))
set_option maxRecDepth 20000 in
theorem sX8_readThings_8 (v2 : Nat) (h2 : isMom v2 = true) : ∀ (n : Nat) (v3 : Int32) (v4 : Int32) (u : US), Sim tI mX8_readThings 5 (fX8_readThings_8 v2 n v3 v4 u) 8 [some (.ref 3), some (.ref 2), some (.ref v2), some (.int v3), some (.int v4), none] [] u := by
  intro n
  induction n with
  | zero =>
    intro v3 v4 u
    rw [fX8_readThings_8.eq_1]
    exact r_none
  | succ n ih =>
    intro v3 v4 u
    rw [fX8_readThings_8.eq_2]
    refine r_iload dX8_readThings_8 rfl ?_
    refine r_if_eq dX8_readThings_10 (tgt := 78) rfl ?_ ?_
    · exact sX8_readThings_78 v2 h2 v3 v4 u
    · refine r_iload_n dX8_readThings_13 rfl ?_
      refine r_bipush dX8_readThings_14 (v := 8) rfl ?_
      refine r_icmp_ge dX8_readThings_16 (tgt := 78) rfl ?_ ?_
      · exact sX8_readThings_78 v2 h2 v3 v4 u
      · refine r_aload_n dX8_readThings_19 rfl ?_
        refine r_get 3 5 flX8_18 rfl (v := .ref 16) rfl dX8_readThings_20 ?_
        refine r_iload_n dX8_readThings_23 rfl ?_
        refine r_aload_n dX8_readThings_24 rfl ?_
        refine r_bipush dX8_readThings_25 (v := 97) rfl ?_
        refine r_bipush dX8_readThings_27 (v := 8) rfl ?_
        refine c_VI (As := [.int 97, .int 8]) kvX8_64 rfl (by decide) (okX5_signFrom 97 8 u) rfl (Nat.le_of_ble_eq_true rfl) rfl dX8_readThings_29 (fun r1 u1 => ?_)
        refine r_iast 16 rfl dX8_readThings_32 (r_nx (fun u2 => ?_))
        refine r_aload_n dX8_readThings_33 rfl ?_
        refine r_get 3 6 flX8_22 rfl (v := .ref 17) rfl dX8_readThings_34 ?_
        refine r_iload_n dX8_readThings_37 rfl ?_
        refine r_aload_n dX8_readThings_38 rfl ?_
        refine r_bipush dX8_readThings_39 (v := 10) rfl ?_
        refine c_VI (As := [.int 10]) kvX8_70 rfl (by decide) (okX5_digit 10 u2) rfl (Nat.le_of_ble_eq_true rfl) rfl dX8_readThings_41 (fun r3 u3 => ?_)
        refine r_iast 17 rfl dX8_readThings_44 (r_nx (fun u4 => ?_))
        refine r_aload_n dX8_readThings_45 rfl ?_
        refine r_get v2 0 flX8_73 (okO_mom h2) (v := .ref (fpt v2 0)) (slA_r (okO_mom h2) rfl rfl) dX8_readThings_46 ?_
        refine r_iload_n dX8_readThings_49 rfl ?_
        refine r_aload_n dX8_readThings_50 rfl ?_
        refine r_aload_n dX8_readThings_51 rfl ?_
        refine c_VI (As := [.ref 2]) kvX8_78 rfl (by decide) (okX8_readField u4) rfl (Nat.le_of_ble_eq_true rfl) rfl dX8_readThings_52 (fun r5 u5 => ?_)
        refine r_iast (fpt v2 0) (okA_mom h2 0 rfl) dX8_readThings_55 (r_nx (fun u6 => ?_))
        refine r_aload_n dX8_readThings_56 rfl ?_
        refine r_get v2 1 flX8_82 (okO_mom h2) (v := .ref (fpt v2 1)) (slA_r (okO_mom h2) rfl rfl) dX8_readThings_57 ?_
        refine r_iload_n dX8_readThings_60 rfl ?_
        refine r_aload_n dX8_readThings_61 rfl ?_
        refine c_VI (As := []) kvX8_85 rfl (by decide) (okX5_heading u6) rfl (Nat.le_of_ble_eq_true rfl) rfl dX8_readThings_62 (fun r7 u7 => ?_)
        refine r_iast (fpt v2 1) (okA_mom h2 1 rfl) dX8_readThings_65 (r_nx (fun u8 => ?_))
        refine r_aload_n dX8_readThings_66 rfl ?_
        refine c_VI (As := []) kvX8_87 rfl (by decide) (okX5_another u8) rfl (Nat.le_of_ble_eq_true rfl) rfl dX8_readThings_67 (fun r9 u9 => ?_)
        refine r_istore dX8_readThings_70 (Nat.le_of_ble_eq_true rfl) (ls2 := [some (.ref 3), some (.ref 2), some (.ref v2), some (.int v3), some (.int r9), none]) rfl ?_
        refine r_iinc dX8_readThings_72 (Nat.le_of_ble_eq_true rfl) rfl (v := v3 + 1) rfl (ls2 := [some (.ref 3), some (.ref 2), some (.ref v2), some (.int (v3 + 1)), some (.int r9), none]) rfl ?_
        refine r_goto dX8_readThings_75 (tgt := 8) rfl ?_
        exact ih (v3 + 1) r9 u9
def fX8_readThings (v2 : Nat) (u : US) : Option (Int32 × US) :=
  gd (isMom v2) (fX8_readThings_8 v2 FU (gI u 3 2) 1 u)
set_option maxRecDepth 20000 in
theorem sX8_readThings (v2 : Nat) (u : US) : Sim tI mX8_readThings 5 (fX8_readThings v2 u) 0 [some (.ref 3), some (.ref 2), some (.ref v2), none, none, none] [] u := by
  unfold fX8_readThings
  refine r_gd (fun h2 => ?_)
  refine r_aload_n dX8_readThings_0 rfl ?_
  refine r_get 3 2 flX8_44 rfl (v := .int (gI u 3 2)) rfl dX8_readThings_1 ?_
  refine r_istore_n dX8_readThings_4 (Nat.le_of_ble_eq_true rfl) (ls2 := [some (.ref 3), some (.ref 2), some (.ref v2), some (.int (gI u 3 2)), none, none]) rfl ?_
  refine r_iconst dX8_readThings_5 (v := 1) rfl ?_
  refine r_istore dX8_readThings_6 (Nat.le_of_ble_eq_true rfl) (ls2 := [some (.ref 3), some (.ref 2), some (.ref v2), some (.int (gI u 3 2)), some (.int 1), none]) rfl ?_
  exact sX8_readThings_8 v2 h2 FU (gI u 3 2) 1 u
theorem okX8_readThings (v2 : Nat) (u : US) : ∀ r, fX8_readThings v2 u = some r → MetC mX8_readThings 5 [.ref 3, .ref 2, .ref v2] u (tI r) :=
  met_of (by decide +kernel) (Nat.le_of_ble_eq_true rfl) rfl (sX8_readThings v2 u)
def fX11_things (u : US) : Option (Int32 × US) :=
  oB (fX7_isEmpty u) fun r1 u1 => (if r1 = 0 then oV (fX5_open 47 u1) fun u2 => oB (fX8_readThings 4 u2) fun r3 u3 => oB (fX11_arrived r3 u3) fun r4 u4 => some (r4, u4) else some (0, u1))
set_option maxRecDepth 20000 in
theorem sX11_things (u : US) : Sim tI mX11_things 6 (fX11_things u) 0 [some (.ref 0)] [] u := by
  unfold fX11_things
  refine r_aload_n dX11_things_0 rfl ?_
  refine r_get 0 0 flX11_10 rfl (v := .ref 1) rfl dX11_things_1 ?_
  refine c_VI (As := []) kvX11_129 rfl (by decide) (okX7_isEmpty u) rfl (Nat.le_of_ble_eq_true rfl) rfl dX11_things_4 (fun r1 u1 => ?_)
  refine r_if_eq dX11_things_7 (tgt := 12) rfl ?_ ?_
  · refine r_aload_n dX11_things_12 rfl ?_
    refine r_get 0 1 flX11_21 rfl (v := .ref 2) rfl dX11_things_13 ?_
    refine r_bipush dX11_things_16 (v := 47) rfl ?_
    refine c_VV (As := [.int 47]) kvX11_104 rfl (by decide) (okX5_open 47 u1) rfl (Nat.le_of_ble_eq_true rfl) rfl dX11_things_18 (fun u2 => ?_)
    refine r_aload_n dX11_things_21 rfl ?_
    refine r_aload_n dX11_things_22 rfl ?_
    refine r_get 0 2 flX11_28 rfl (v := .ref 3) rfl dX11_things_23 ?_
    refine r_aload_n dX11_things_26 rfl ?_
    refine r_get 0 1 flX11_21 rfl (v := .ref 2) rfl dX11_things_27 ?_
    refine r_aload_n dX11_things_30 rfl ?_
    refine r_get 0 3 flX11_35 rfl (v := .ref 4) rfl dX11_things_31 ?_
    refine c_VI (As := [.ref 2, .ref 4]) kvX11_133 rfl (by decide) (okX8_readThings 4 u2) rfl (Nat.le_of_ble_eq_true rfl) rfl dX11_things_34 (fun r3 u3 => ?_)
    refine c_VI (As := [.int r3]) kvX11_137 rfl (by decide) (okX11_arrived r3 u3) rfl (Nat.le_of_ble_eq_true rfl) rfl dX11_things_37 (fun r4 u4 => ?_)
    exact r_ireturn rfl dX11_things_40
  · refine r_iconst dX11_things_10 (v := 0) rfl ?_
    exact r_ireturn rfl dX11_things_11
theorem okX11_things (u : US) : ∀ r, fX11_things u = some r → MetC mX11_things 6 [.ref 0] u (tI r) :=
  met_of (by decide +kernel) (Nat.le_of_ble_eq_true rfl) rfl (sX11_things u)
def fX4_pop (v1 : Nat) (u : US) : Option (Int32 × US) :=
  gd (isMom v1) ((if (gI u 7 3) = 0 then some ((-1), u) else nx (sI u 7 3 ((gI u 7 3) - 1)) fun u1 => oV (fX1_read v1 31 (gI u1 7 3) u1) fun u2 => some (gI u2 7 3, u2)))
set_option maxRecDepth 20000 in
theorem sX4_pop (v1 : Nat) (u : US) : Sim tI mX4_pop 6 (fX4_pop v1 u) 0 [some (.ref 7), some (.ref v1)] [] u := by
  unfold fX4_pop
  refine r_gd (fun h1 => ?_)
  refine r_aload_n dX4_pop_0 rfl ?_
  refine r_get 7 3 flX4_20 rfl (v := .int (gI u 7 3)) rfl dX4_pop_1 ?_
  refine r_if_ne dX4_pop_4 (tgt := 9) rfl ?_ ?_
  · refine r_aload_n dX4_pop_9 rfl ?_
    refine r_dup dX4_pop_10 rfl ?_
    refine r_get 7 3 flX4_20 rfl (v := .int (gI u 7 3)) rfl dX4_pop_11 ?_
    refine r_iconst dX4_pop_14 (v := 1) rfl ?_
    refine r_isub dX4_pop_15 ?_
    refine r_put 7 3 fpX4_20 rfl rfl dX4_pop_16 (r_nx (fun u1 => ?_))
    refine r_aload_n dX4_pop_19 rfl ?_
    refine r_aload_n dX4_pop_20 rfl ?_
    refine r_get 7 0 flX4_11 rfl (v := .ref 31) rfl dX4_pop_21 ?_
    refine r_aload_n dX4_pop_24 rfl ?_
    refine r_get 7 3 flX4_20 rfl (v := .int (gI u1 7 3)) rfl dX4_pop_25 ?_
    refine c_VV (As := [.ref 31, .int (gI u1 7 3)]) kvX4_37 (okO_mom h1) (by decide) (okX1_read v1 31 (gI u1 7 3) u1) rfl (Nat.le_of_ble_eq_true rfl) rfl dX4_pop_28 (fun u2 => ?_)
    refine r_aload_n dX4_pop_31 rfl ?_
    refine r_get 7 3 flX4_20 rfl (v := .int (gI u2 7 3)) rfl dX4_pop_32 ?_
    exact r_ireturn rfl dX4_pop_35
  · refine r_iconst dX4_pop_7 (v := -1) rfl ?_
    exact r_ireturn rfl dX4_pop_8
theorem okX4_pop (v1 : Nat) (u : US) : ∀ r, fX4_pop v1 u = some r → MetC mX4_pop 6 [.ref 7, .ref v1] u (tI r) :=
  met_of (by decide +kernel) (Nat.le_of_ble_eq_true rfl) rfl (sX4_pop v1 u)
def fX11_undo (u : US) : Option (Int32 × US) :=
  oB (fX4_pop 4 u) fun r1 u1 => some (r1, u1)
set_option maxRecDepth 20000 in
theorem sX11_undo (u : US) : Sim tI mX11_undo 7 (fX11_undo u) 0 [some (.ref 0)] [] u := by
  unfold fX11_undo
  refine r_aload_n dX11_undo_0 rfl ?_
  refine r_get 0 6 flX11_48 rfl (v := .ref 7) rfl dX11_undo_1 ?_
  refine r_aload_n dX11_undo_4 rfl ?_
  refine r_get 0 3 flX11_35 rfl (v := .ref 4) rfl dX11_undo_5 ?_
  refine c_VI (As := [.ref 4]) kvX11_322 rfl (by decide) (okX4_pop 4 u) rfl (Nat.le_of_ble_eq_true rfl) rfl dX11_undo_8 (fun r1 u1 => ?_)
  exact r_ireturn rfl dX11_undo_11
theorem okX11_undo (u : US) : ∀ r, fX11_undo u = some r → MetC mX11_undo 7 [.ref 0] u (tI r) :=
  met_of (by decide +kernel) (Nat.le_of_ble_eq_true rfl) rfl (sX11_undo u)
def fX11_watch_22 (v1 : Int32) : Nat → Int32 → US → Option (Int32 × US)
  | 0, _, _ => none
  | n + 1, v2, u => (if (gI u 3 4) ≤ v2 then oB (fX11_tellFewest v1 0 u) fun r1 u1 => some (r1, u1) else oB (fX8_seenFrom 4 v2 u) fun r2 u2 => oV (fX3_add r2 u2) fun u3 => fX11_watch_22 v1 n (v2 + 1) u3)
set_option maxRecDepth 20000 in
theorem sX11_watch_22 (v1 : Int32) : ∀ (n : Nat) (v2 : Int32) (u : US), Sim tI mX11_watch 9 (fX11_watch_22 v1 n v2 u) 22 [some (.ref 0), some (.int v1), some (.int v2)] [] u := by
  intro n
  induction n with
  | zero =>
    intro v2 u
    rw [fX11_watch_22.eq_1]
    exact r_none
  | succ n ih =>
    intro v2 u
    rw [fX11_watch_22.eq_2]
    refine r_iload_n dX11_watch_22 rfl ?_
    refine r_aload_n dX11_watch_23 rfl ?_
    refine r_get 0 2 flX11_28 rfl (v := .ref 3) rfl dX11_watch_24 ?_
    refine r_get 3 4 flX11_267 rfl (v := .int (gI u 3 4)) rfl dX11_watch_27 ?_
    refine r_icmp_ge dX11_watch_30 (tgt := 58) rfl ?_ ?_
    · refine r_aload_n dX11_watch_58 rfl ?_
      refine r_iload_n dX11_watch_59 rfl ?_
      refine r_iconst dX11_watch_60 (v := 0) rfl ?_
      refine c_VI (As := [.int v1, .int 0]) kvX11_348 rfl (by decide) (okX11_tellFewest v1 0 u) rfl (Nat.le_of_ble_eq_true rfl) rfl dX11_watch_61 (fun r1 u1 => ?_)
      exact r_ireturn rfl dX11_watch_64
    · refine r_aload_n dX11_watch_33 rfl ?_
      refine r_get 0 8 flX11_62 rfl (v := .ref 9) rfl dX11_watch_34 ?_
      refine r_aload_n dX11_watch_37 rfl ?_
      refine r_get 0 2 flX11_28 rfl (v := .ref 3) rfl dX11_watch_38 ?_
      refine r_aload_n dX11_watch_41 rfl ?_
      refine r_get 0 3 flX11_35 rfl (v := .ref 4) rfl dX11_watch_42 ?_
      refine r_iload_n dX11_watch_45 rfl ?_
      refine c_VI (As := [.ref 4, .int v2]) kvX11_221 rfl (by decide) (okX8_seenFrom 4 v2 u) rfl (Nat.le_of_ble_eq_true rfl) rfl dX11_watch_46 (fun r2 u2 => ?_)
      refine c_VV (As := [.int r2]) kvX11_346 rfl (by decide) (okX3_add r2 u2) rfl (Nat.le_of_ble_eq_true rfl) rfl dX11_watch_49 (fun u3 => ?_)
      refine r_iinc dX11_watch_52 (Nat.le_of_ble_eq_true rfl) rfl (v := v2 + 1) rfl (ls2 := [some (.ref 0), some (.int v1), some (.int (v2 + 1))]) rfl ?_
      refine r_goto dX11_watch_55 (tgt := 22) rfl ?_
      exact ih (v2 + 1) u3
def fX11_watch (v1 : Int32) (u : US) : Option (Int32 × US) :=
  oB (fX8_areThings v1 u) fun r1 u1 => (if r1 = 0 then some ((-1), u1) else oV (fX3_clear u1) fun u2 => fX11_watch_22 v1 FU 0 u2)
set_option maxRecDepth 20000 in
theorem sX11_watch (v1 : Int32) (u : US) : Sim tI mX11_watch 9 (fX11_watch v1 u) 0 [some (.ref 0), some (.int v1), none] [] u := by
  unfold fX11_watch
  refine r_aload_n dX11_watch_0 rfl ?_
  refine r_get 0 2 flX11_28 rfl (v := .ref 3) rfl dX11_watch_1 ?_
  refine r_iload_n dX11_watch_4 rfl ?_
  refine c_VI (As := [.int v1]) kvX11_342 rfl (by decide) (okX8_areThings v1 u) rfl (Nat.le_of_ble_eq_true rfl) rfl dX11_watch_5 (fun r1 u1 => ?_)
  refine r_if_ne dX11_watch_8 (tgt := 13) rfl ?_ ?_
  · refine r_aload_n dX11_watch_13 rfl ?_
    refine r_get 0 8 flX11_62 rfl (v := .ref 9) rfl dX11_watch_14 ?_
    refine c_VV (As := []) kvX11_345 rfl (by decide) (okX3_clear u1) rfl (Nat.le_of_ble_eq_true rfl) rfl dX11_watch_17 (fun u2 => ?_)
    refine r_iconst dX11_watch_20 (v := 0) rfl ?_
    refine r_istore_n dX11_watch_21 (Nat.le_of_ble_eq_true rfl) (ls2 := [some (.ref 0), some (.int v1), some (.int 0)]) rfl ?_
    exact sX11_watch_22 v1 FU 0 u2
  · refine r_iconst dX11_watch_11 (v := -1) rfl ?_
    exact r_ireturn rfl dX11_watch_12
theorem okX11_watch (v1 : Int32) (u : US) : ∀ r, fX11_watch v1 u = some r → MetC mX11_watch 9 [.ref 0, .int v1] u (tI r) :=
  met_of (by decide +kernel) (Nat.le_of_ble_eq_true rfl) rfl (sX11_watch v1 u)
def fX11_watched_35 (v1 : Int32) (v2 : Int32) (v3 : Int32) (s1 : Int32) (s2 : Int32) (s3 : Int32) (u : US) : Option (Int32 × US) :=
  oB (fX10_add s1 s2 s3 u) fun r1 u1 => some (r1, u1)
set_option maxRecDepth 20000 in
theorem sX11_watched_35 (v1 : Int32) (v2 : Int32) (v3 : Int32) (s1 : Int32) (s2 : Int32) (s3 : Int32) (u : US) : Sim tI mX11_watched 1 (fX11_watched_35 v1 v2 v3 s1 s2 s3 u) 35 [some (.ref 0), some (.int v1), some (.int v2), some (.int v3)] [.int s3, .int s2, .int s1, .ref 11] u := by
  unfold fX11_watched_35
  refine c_VI (As := [.int s1, .int s2, .int s3]) kvX11_389 rfl (by decide) (okX10_add s1 s2 s3 u) rfl (Nat.le_of_ble_eq_true rfl) rfl dX11_watched_35 (fun r1 u1 => ?_)
  exact r_ireturn rfl dX11_watched_38
def fX11_watched (v1 : Int32) (v2 : Int32) (v3 : Int32) (u : US) : Option (Int32 × US) :=
  oB (fX11_isSort v1 v2 u) fun r1 u1 => (if r1 = 0 then some ((-1), u1) else (if v3 < 0 then some ((-1), u1) else (if v3 ≤ 1 then (if v3 = 1 then fX11_watched_35 v1 v2 v3 v1 v2 1 u1 else fX11_watched_35 v1 v2 v3 v1 v2 0 u1) else some ((-1), u1))))
set_option maxRecDepth 20000 in
theorem sX11_watched (v1 : Int32) (v2 : Int32) (v3 : Int32) (u : US) : Sim tI mX11_watched 1 (fX11_watched v1 v2 v3 u) 0 [some (.ref 0), some (.int v1), some (.int v2), some (.int v3)] [] u := by
  unfold fX11_watched
  refine r_iload_n dX11_watched_0 rfl ?_
  refine r_iload_n dX11_watched_1 rfl ?_
  refine c_SI (As := [.int v1, .int v2]) ksX11_367 (by decide) (okX11_isSort v1 v2 u) rfl (Nat.le_of_ble_eq_true rfl) rfl dX11_watched_2 (fun r1 u1 => ?_)
  refine r_if_eq dX11_watched_5 (tgt := 17) rfl ?_ ?_
  · refine r_iconst dX11_watched_17 (v := -1) rfl ?_
    exact r_ireturn rfl dX11_watched_18
  · refine r_iload_n dX11_watched_8 rfl ?_
    refine r_if_lt dX11_watched_9 (tgt := 17) rfl ?_ ?_
    · refine r_iconst dX11_watched_17 (v := -1) rfl ?_
      exact r_ireturn rfl dX11_watched_18
    · refine r_iload_n dX11_watched_12 rfl ?_
      refine r_iconst dX11_watched_13 (v := 1) rfl ?_
      refine r_icmp_le dX11_watched_14 (tgt := 19) rfl ?_ ?_
      · refine r_aload_n dX11_watched_19 rfl ?_
        refine r_get 0 10 flX11_78 rfl (v := .ref 11) rfl dX11_watched_20 ?_
        refine r_iload_n dX11_watched_23 rfl ?_
        refine r_iload_n dX11_watched_24 rfl ?_
        refine r_iload_n dX11_watched_25 rfl ?_
        refine r_iconst dX11_watched_26 (v := 1) rfl ?_
        refine r_icmp_ne dX11_watched_27 (tgt := 34) rfl ?_ ?_
        · refine r_iconst dX11_watched_34 (v := 0) rfl ?_
          exact sX11_watched_35 v1 v2 v3 v1 v2 0 u1
        · refine r_iconst dX11_watched_30 (v := 1) rfl ?_
          refine r_goto dX11_watched_31 (tgt := 35) rfl ?_
          exact sX11_watched_35 v1 v2 v3 v1 v2 1 u1
      · refine r_iconst dX11_watched_17 (v := -1) rfl ?_
        exact r_ireturn rfl dX11_watched_18
theorem okX11_watched (v1 : Int32) (v2 : Int32) (v3 : Int32) (u : US) : ∀ r, fX11_watched v1 v2 v3 u = some r → MetC mX11_watched 1 [.ref 0, .int v1, .int v2, .int v3] u (tI r) :=
  met_of (by decide +kernel) (Nat.le_of_ble_eq_true rfl) rfl (sX11_watched v1 v2 v3 u)
def fX11_years_47 (v1 : Int32) (v2 : Int32) (k34 : Int32 → Int32 → US → Option (Int32 × US)) : Nat → Int32 → Int32 → Int32 → US → Option (Int32 × US)
  | 0, _, _, _, _ => none
  | n + 1, v3, v4, v5, u => (if (gI u 3 4) ≤ v5 then k34 v3 (v4 + 1) u else oB (fX8_seenFrom 6 v5 u) fun r1 u1 => oB (fJ6_bitCount_0f7a4 r1 u1) fun r2 u2 => fX11_years_47 v1 v2 k34 n (v3 + r2) v4 (v5 + 1) u2)
set_option maxRecDepth 20000 in
theorem sX11_years_47 (v1 : Int32) (v2 : Int32) (k34 : Int32 → Int32 → US → Option (Int32 × US)) (hk34 : ∀ (v3 : Int32) (v4 : Int32) (u : US), Sim tI mX11_years 9 (k34 v3 v4 u) 34 [some (.ref 0), some (.int v1), some (.int v2), some (.int v3), some (.int v4), none] [] u) : ∀ (n : Nat) (v3 : Int32) (v4 : Int32) (v5 : Int32) (u : US), Sim tI mX11_years 9 (fX11_years_47 v1 v2 k34 n v3 v4 v5 u) 47 [some (.ref 0), some (.int v1), some (.int v2), some (.int v3), some (.int v4), some (.int v5)] [] u := by
  intro n
  induction n with
  | zero =>
    intro v3 v4 v5 u
    rw [fX11_years_47.eq_1]
    exact r_none
  | succ n ih =>
    intro v3 v4 v5 u
    rw [fX11_years_47.eq_2]
    refine r_iload dX11_years_47 rfl ?_
    refine r_aload_n dX11_years_49 rfl ?_
    refine r_get 0 2 flX11_28 rfl (v := .ref 3) rfl dX11_years_50 ?_
    refine r_get 3 4 flX11_267 rfl (v := .int (gI u 3 4)) rfl dX11_years_53 ?_
    refine r_icmp_ge dX11_years_56 (tgt := 84) rfl ?_ ?_
    · refine r_iinc dX11_years_84 (Nat.le_of_ble_eq_true rfl) rfl (v := v4 + 1) rfl (ls2 := [some (.ref 0), some (.int v1), some (.int v2), some (.int v3), some (.int (v4 + 1)), some (.int v5)]) rfl ?_
      refine r_goto dX11_years_87 (tgt := 34) rfl ?_
      refine r_mk [true, true, true, true, true, false] (ls2 := [some (.ref 0), some (.int v1), some (.int v2), some (.int v3), some (.int (v4 + 1)), none]) rfl ?_
      exact hk34 v3 (v4 + 1) u
    · refine r_iload_n dX11_years_59 rfl ?_
      refine r_aload_n dX11_years_60 rfl ?_
      refine r_get 0 2 flX11_28 rfl (v := .ref 3) rfl dX11_years_61 ?_
      refine r_aload_n dX11_years_64 rfl ?_
      refine r_get 0 5 flX11_42 rfl (v := .ref 6) rfl dX11_years_65 ?_
      refine r_iload dX11_years_68 rfl ?_
      refine c_VI (As := [.ref 6, .int v5]) kvX11_221 rfl (by decide) (okX8_seenFrom 6 v5 u) rfl (Nat.le_of_ble_eq_true rfl) rfl dX11_years_70 (fun r1 u1 => ?_)
      refine c_SI (As := [.int r1]) ksX11_254 (by decide) (okJ6_bitCount_0f7a4 r1 u1) rfl (Nat.le_of_ble_eq_true rfl) rfl dX11_years_73 (fun r2 u2 => ?_)
      refine r_iadd dX11_years_76 ?_
      refine r_istore_n dX11_years_77 (Nat.le_of_ble_eq_true rfl) (ls2 := [some (.ref 0), some (.int v1), some (.int v2), some (.int (v3 + r2)), some (.int v4), some (.int v5)]) rfl ?_
      refine r_iinc dX11_years_78 (Nat.le_of_ble_eq_true rfl) rfl (v := v5 + 1) rfl (ls2 := [some (.ref 0), some (.int v1), some (.int v2), some (.int (v3 + r2)), some (.int v4), some (.int (v5 + 1))]) rfl ?_
      refine r_goto dX11_years_81 (tgt := 47) rfl ?_
      exact ih (v3 + r2) v4 (v5 + 1) u2
def fX11_years_34 (v1 : Int32) (v2 : Int32) : Nat → Int32 → Int32 → US → Option (Int32 × US)
  | 0, _, _, _ => none
  | n + 1, v3, v4, u => (if v2 ≤ v4 then oB (fJ6_bitCount_0f7a4 (gI u 6 3) u) fun r1 u1 => oV (fX2_tellTwo ((gI u 6 4 : Int32).toInt64) ((r1 : Int32).toInt64) u1) fun u2 => some (v3, u2) else oV (fX11_liveYear u) fun u3 => fX11_years_47 v1 v2 (fX11_years_34 v1 v2 n) FU v3 v4 0 u3)
set_option maxRecDepth 20000 in
theorem sX11_years_34 (v1 : Int32) (v2 : Int32) : ∀ (n : Nat) (v3 : Int32) (v4 : Int32) (u : US), Sim tI mX11_years 9 (fX11_years_34 v1 v2 n v3 v4 u) 34 [some (.ref 0), some (.int v1), some (.int v2), some (.int v3), some (.int v4), none] [] u := by
  intro n
  induction n with
  | zero =>
    intro v3 v4 u
    rw [fX11_years_34.eq_1]
    exact r_none
  | succ n ih =>
    intro v3 v4 u
    rw [fX11_years_34.eq_2]
    refine r_iload dX11_years_34 rfl ?_
    refine r_iload_n dX11_years_36 rfl ?_
    refine r_icmp_ge dX11_years_37 (tgt := 90) rfl ?_ ?_
    · refine r_aload_n dX11_years_90 rfl ?_
      refine r_get 0 7 flX11_55 rfl (v := .ref 8) rfl dX11_years_91 ?_
      refine r_aload_n dX11_years_94 rfl ?_
      refine r_get 0 5 flX11_42 rfl (v := .ref 6) rfl dX11_years_95 ?_
      refine r_get 6 4 flX11_280 rfl (v := .int (gI u 6 4)) rfl dX11_years_98 ?_
      refine r_i2l dX11_years_101 ?_
      refine r_aload_n dX11_years_102 rfl ?_
      refine r_get 0 5 flX11_42 rfl (v := .ref 6) rfl dX11_years_103 ?_
      refine r_get 6 3 flX11_259 rfl (v := .int (gI u 6 3)) rfl dX11_years_106 ?_
      refine c_SI (As := [.int (gI u 6 3)]) ksX11_254 (by decide) (okJ6_bitCount_0f7a4 (gI u 6 3) u) rfl (Nat.le_of_ble_eq_true rfl) rfl dX11_years_109 (fun r1 u1 => ?_)
      refine r_i2l dX11_years_112 ?_
      refine c_VV (As := [.long ((gI u 6 4 : Int32).toInt64), .long ((r1 : Int32).toInt64)]) kvX11_298 rfl (by decide) (okX2_tellTwo ((gI u 6 4 : Int32).toInt64) ((r1 : Int32).toInt64) u1) rfl (Nat.le_of_ble_eq_true rfl) rfl dX11_years_113 (fun u2 => ?_)
      refine r_iload_n dX11_years_116 rfl ?_
      exact r_ireturn rfl dX11_years_117
    · refine r_aload_n dX11_years_40 rfl ?_
      refine c_VV (As := []) kvX11_456 rfl (by decide) (okX11_liveYear u) rfl (Nat.le_of_ble_eq_true rfl) rfl dX11_years_41 (fun u3 => ?_)
      refine r_iconst dX11_years_44 (v := 0) rfl ?_
      refine r_istore dX11_years_45 (Nat.le_of_ble_eq_true rfl) (ls2 := [some (.ref 0), some (.int v1), some (.int v2), some (.int v3), some (.int v4), some (.int 0)]) rfl ?_
      exact sX11_years_47 v1 v2 (fX11_years_34 v1 v2 n) ih FU v3 v4 0 u3
def fX11_years (v1 : Int32) (v2 : Int32) (u : US) : Option (Int32 × US) :=
  (if v2 < 1 then some ((-1), u) else (if v2 ≤ 60 then nx (sI u 0 13 v1) fun u1 => oV (fX1_copy 6 4 u1) fun u2 => fX11_years_34 v1 v2 FU 0 0 u2 else some ((-1), u)))
set_option maxRecDepth 20000 in
theorem sX11_years (v1 : Int32) (v2 : Int32) (u : US) : Sim tI mX11_years 9 (fX11_years v1 v2 u) 0 [some (.ref 0), some (.int v1), some (.int v2), none, none, none] [] u := by
  unfold fX11_years
  refine r_iload_n dX11_years_0 rfl ?_
  refine r_iconst dX11_years_1 (v := 1) rfl ?_
  refine r_icmp_lt dX11_years_2 (tgt := 11) rfl ?_ ?_
  · refine r_iconst dX11_years_11 (v := -1) rfl ?_
    exact r_ireturn rfl dX11_years_12
  · refine r_iload_n dX11_years_5 rfl ?_
    refine r_bipush dX11_years_6 (v := 60) rfl ?_
    refine r_icmp_le dX11_years_8 (tgt := 13) rfl ?_ ?_
    · refine r_aload_n dX11_years_13 rfl ?_
      refine r_iload_n dX11_years_14 rfl ?_
      refine r_put 0 13 fpX11_453 rfl rfl dX11_years_15 (r_nx (fun u1 => ?_))
      refine r_aload_n dX11_years_18 rfl ?_
      refine r_get 0 5 flX11_42 rfl (v := .ref 6) rfl dX11_years_19 ?_
      refine r_aload_n dX11_years_22 rfl ?_
      refine r_get 0 3 flX11_35 rfl (v := .ref 4) rfl dX11_years_23 ?_
      refine c_VV (As := [.ref 4]) kvX11_231 rfl (by decide) (okX1_copy 6 4 u1) rfl (Nat.le_of_ble_eq_true rfl) rfl dX11_years_26 (fun u2 => ?_)
      refine r_iconst dX11_years_29 (v := 0) rfl ?_
      refine r_istore_n dX11_years_30 (Nat.le_of_ble_eq_true rfl) (ls2 := [some (.ref 0), some (.int v1), some (.int v2), some (.int 0), none, none]) rfl ?_
      refine r_iconst dX11_years_31 (v := 0) rfl ?_
      refine r_istore dX11_years_32 (Nat.le_of_ble_eq_true rfl) (ls2 := [some (.ref 0), some (.int v1), some (.int v2), some (.int 0), some (.int 0), none]) rfl ?_
      exact sX11_years_34 v1 v2 FU 0 0 u2
    · refine r_iconst dX11_years_11 (v := -1) rfl ?_
      exact r_ireturn rfl dX11_years_12
theorem okX11_years (v1 : Int32) (v2 : Int32) (u : US) : ∀ r, fX11_years v1 v2 u = some r → MetC mX11_years 9 [.ref 0, .int v1, .int v2] u (tI r) :=
  met_of (by decide +kernel) (Nat.le_of_ble_eq_true rfl) rfl (sX11_years v1 v2 u)
