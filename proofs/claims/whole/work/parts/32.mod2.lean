def fX12_rooms_21 : Nat → Int32 → US → Option (Int32 × US)
  | 0, _, _ => none
  | n + 1, v2, u => (if (gI u 47 23) ≤ v2 then oB (fX12_isNew u) fun r1 u1 => some (r1, u1) else gd (inb (2 * v2) 32) (gd (inb (gI u 47 7) 4) (nx (sA u 53 (gI u 47 7) (gA u 58 (2 * v2))) fun u2 => gd (inb ((2 * v2) + 1) 32) (gd (inb (gI u2 47 7) 4) (nx (sA u2 54 (gI u2 47 7) (gA u2 58 ((2 * v2) + 1))) fun u3 => nx (sI u3 47 7 ((gI u3 47 7) + 1)) fun u4 => fX12_rooms_21 n (v2 + 1) u4)))))
set_option maxRecDepth 20000 in
theorem sX12_rooms_21 : ∀ (n : Nat) (v2 : Int32) (u : US), Sim tI mX12_rooms 11 (fX12_rooms_21 n v2 u) 21 [some (.ref 47), none, some (.int v2)] [] u := by
  intro n
  induction n with
  | zero =>
    intro v2 u
    rw [fX12_rooms_21.eq_1]
    exact r_none
  | succ n ih =>
    intro v2 u
    rw [fX12_rooms_21.eq_2]
    refine r_iload_n dX12_rooms_21 rfl ?_
    refine r_aload_n dX12_rooms_22 rfl ?_
    refine r_get 47 23 flX12_218 rfl (v := .int (gI u 47 23)) rfl dX12_rooms_23 ?_
    refine r_icmp_ge dX12_rooms_26 (tgt := 81) rfl ?_ ?_
    · refine r_aload_n dX12_rooms_81 rfl ?_
      refine c_VI (As := []) kvX12_258 rfl (by decide) (okX12_isNew u) rfl (Nat.le_of_ble_eq_true rfl) rfl dX12_rooms_82 (fun r1 u1 => ?_)
      exact r_ireturn rfl dX12_rooms_85
    · refine r_aload_n dX12_rooms_29 rfl ?_
      refine r_get 47 13 flX12_43 rfl (v := .ref 53) rfl dX12_rooms_30 ?_
      refine r_aload_n dX12_rooms_33 rfl ?_
      refine r_get 47 7 flX12_150 rfl (v := .int (gI u 47 7)) rfl dX12_rooms_34 ?_
      refine r_aload_n dX12_rooms_37 rfl ?_
      refine r_get 47 22 flX12_58 rfl (v := .ref 58) rfl dX12_rooms_38 ?_
      refine r_iconst dX12_rooms_41 (v := 2) rfl ?_
      refine r_iload_n dX12_rooms_42 rfl ?_
      refine r_imul dX12_rooms_43 ?_
      refine r_iald 58 rfl dX12_rooms_44 ?_
      refine r_iast 53 rfl dX12_rooms_45 (r_nx (fun u2 => ?_))
      refine r_aload_n dX12_rooms_46 rfl ?_
      refine r_get 47 14 flX12_46 rfl (v := .ref 54) rfl dX12_rooms_47 ?_
      refine r_aload_n dX12_rooms_50 rfl ?_
      refine r_get 47 7 flX12_150 rfl (v := .int (gI u2 47 7)) rfl dX12_rooms_51 ?_
      refine r_aload_n dX12_rooms_54 rfl ?_
      refine r_get 47 22 flX12_58 rfl (v := .ref 58) rfl dX12_rooms_55 ?_
      refine r_iconst dX12_rooms_58 (v := 2) rfl ?_
      refine r_iload_n dX12_rooms_59 rfl ?_
      refine r_imul dX12_rooms_60 ?_
      refine r_iconst dX12_rooms_61 (v := 1) rfl ?_
      refine r_iadd dX12_rooms_62 ?_
      refine r_iald 58 rfl dX12_rooms_63 ?_
      refine r_iast 54 rfl dX12_rooms_64 (r_nx (fun u3 => ?_))
      refine r_aload_n dX12_rooms_65 rfl ?_
      refine r_dup dX12_rooms_66 rfl ?_
      refine r_get 47 7 flX12_150 rfl (v := .int (gI u3 47 7)) rfl dX12_rooms_67 ?_
      refine r_iconst dX12_rooms_70 (v := 1) rfl ?_
      refine r_iadd dX12_rooms_71 ?_
      refine r_put 47 7 fpX12_150 rfl rfl dX12_rooms_72 (r_nx (fun u4 => ?_))
      refine r_iinc dX12_rooms_75 (Nat.le_of_ble_eq_true rfl) rfl (v := v2 + 1) rfl (ls2 := [some (.ref 47), none, some (.int (v2 + 1))]) rfl ?_
      refine r_goto dX12_rooms_78 (tgt := 21) rfl ?_
      exact ih (v2 + 1) u4
def fX12_rooms (u : US) : Option (Int32 × US) :=
  nx (sI u 47 0 0) fun u1 => oB (fX12_readsLines 2 15 u1) fun r2 u2 => (if 0 ≤ r2 then fX12_rooms_21 FU 0 u2 else some (r2, u2))
set_option maxRecDepth 20000 in
theorem sX12_rooms (u : US) : Sim tI mX12_rooms 11 (fX12_rooms u) 0 [some (.ref 47), none, none] [] u := by
  unfold fX12_rooms
  refine r_aload_n dX12_rooms_0 rfl ?_
  refine r_iconst dX12_rooms_1 (v := 0) rfl ?_
  refine r_put 47 0 fpX12_3 rfl rfl dX12_rooms_2 (r_nx (fun u1 => ?_))
  refine r_aload_n dX12_rooms_5 rfl ?_
  refine r_iconst dX12_rooms_6 (v := 2) rfl ?_
  refine r_bipush dX12_rooms_7 (v := 15) rfl ?_
  refine c_VI (As := [.int 2, .int 15]) kvX12_255 rfl (by decide) (okX12_readsLines 2 15 u1) rfl (Nat.le_of_ble_eq_true rfl) rfl dX12_rooms_9 (fun r2 u2 => ?_)
  refine r_istore_n dX12_rooms_12 (Nat.le_of_ble_eq_true rfl) (ls2 := [some (.ref 47), some (.int r2), none]) rfl ?_
  refine r_iload_n dX12_rooms_13 rfl ?_
  refine r_if_ge dX12_rooms_14 (tgt := 19) rfl ?_ ?_
  · refine r_iconst dX12_rooms_19 (v := 0) rfl ?_
    refine r_istore_n dX12_rooms_20 (Nat.le_of_ble_eq_true rfl) (ls2 := [some (.ref 47), some (.int r2), some (.int 0)]) rfl ?_
    refine r_mk [true, false, true] (ls2 := [some (.ref 47), none, some (.int 0)]) rfl ?_
    exact sX12_rooms_21 FU 0 u2
  · refine r_iload_n dX12_rooms_17 rfl ?_
    exact r_ireturn rfl dX12_rooms_18
theorem okX12_rooms (u : US) : ∀ r, fX12_rooms u = some r → MetC mX12_rooms 11 [.ref 47] u (tI r) :=
  met_of (by decide +kernel) (Nat.le_of_ble_eq_true rfl) rfl (sX12_rooms u)
def fX12_row (v1 : Int32) (u : US) : Option (Int64 × US) :=
  nx (sI u 47 0 0) fun u1 => oB (fX12_in ((v1 : Int32).toInt64) 0 (((gI u1 47 1) - 1 : Int32).toInt64) u1) fun r2 u2 => (if r2 = 0 then nx (sI u2 47 0 1) fun u3 => some (0, u3) else gd (inb v1 36) (some (gJ u2 48 v1, u2)))
set_option maxRecDepth 20000 in
theorem sX12_row (v1 : Int32) (u : US) : Sim tJ mX12_row 1 (fX12_row v1 u) 0 [some (.ref 47), some (.int v1)] [] u := by
  unfold fX12_row
  refine r_aload_n dX12_row_0 rfl ?_
  refine r_iconst dX12_row_1 (v := 0) rfl ?_
  refine r_put 47 0 fpX12_3 rfl rfl dX12_row_2 (r_nx (fun u1 => ?_))
  refine r_iload_n dX12_row_5 rfl ?_
  refine r_i2l dX12_row_6 ?_
  refine r_lconst dX12_row_7 (v := 0) rfl ?_
  refine r_aload_n dX12_row_8 rfl ?_
  refine r_get 47 1 flX12_15 rfl (v := .int (gI u1 47 1)) rfl dX12_row_9 ?_
  refine r_iconst dX12_row_12 (v := 1) rfl ?_
  refine r_isub dX12_row_13 ?_
  refine r_i2l dX12_row_14 ?_
  refine c_SI (As := [.long ((v1 : Int32).toInt64), .long 0, .long (((gI u1 47 1) - 1 : Int32).toInt64)]) ksX12_143 (by decide) (okX12_in ((v1 : Int32).toInt64) 0 (((gI u1 47 1) - 1 : Int32).toInt64) u1) rfl (Nat.le_of_ble_eq_true rfl) rfl dX12_row_15 (fun r2 u2 => ?_)
  refine r_if_ne dX12_row_18 (tgt := 28) rfl ?_ ?_
  · refine r_aload_n dX12_row_28 rfl ?_
    refine r_get 47 2 flX12_11 rfl (v := .ref 48) rfl dX12_row_29 ?_
    refine r_iload_n dX12_row_32 rfl ?_
    refine r_lald 48 rfl dX12_row_33 ?_
    exact r_lreturn rfl dX12_row_34
  · refine r_aload_n dX12_row_21 rfl ?_
    refine r_iconst dX12_row_22 (v := 1) rfl ?_
    refine r_put 47 0 fpX12_3 rfl rfl dX12_row_23 (r_nx (fun u3 => ?_))
    refine r_lconst dX12_row_26 (v := 0) rfl ?_
    exact r_lreturn rfl dX12_row_27
theorem okX12_row (v1 : Int32) (u : US) : ∀ r, fX12_row v1 u = some r → MetC mX12_row 1 [.ref 47, .int v1] u (tJ r) :=
  met_of (by decide +kernel) (Nat.le_of_ble_eq_true rfl) rfl (sX12_row v1 u)
def fX12_rule (u : US) : Option (Int32 × US) :=
  nx (sI u 47 0 0) fun u1 => oB (fX12_readsRule u1) fun r2 u2 => (if r2 = 0 then oV (fX12_laysCode 60 (gI u2 47 27) u2) fun u3 => some (r2, u3) else some (r2, u2))
set_option maxRecDepth 20000 in
theorem sX12_rule (u : US) : Sim tI mX12_rule 402 (fX12_rule u) 0 [some (.ref 47), none] [] u := by
  unfold fX12_rule
  refine r_aload_n dX12_rule_0 rfl ?_
  refine r_iconst dX12_rule_1 (v := 0) rfl ?_
  refine r_put 47 0 fpX12_3 rfl rfl dX12_rule_2 (r_nx (fun u1 => ?_))
  refine r_aload_n dX12_rule_5 rfl ?_
  refine c_VI (As := []) kvX12_285 rfl (by decide) (okX12_readsRule u1) rfl (Nat.le_of_ble_eq_true rfl) rfl dX12_rule_6 (fun r2 u2 => ?_)
  refine r_istore_n dX12_rule_9 (Nat.le_of_ble_eq_true rfl) (ls2 := [some (.ref 47), some (.int r2)]) rfl ?_
  refine r_iload_n dX12_rule_10 rfl ?_
  refine r_if_ne dX12_rule_11 (tgt := 26) rfl ?_ ?_
  · refine r_iload_n dX12_rule_26 rfl ?_
    exact r_ireturn rfl dX12_rule_27
  · refine r_aload_n dX12_rule_14 rfl ?_
    refine r_aload_n dX12_rule_15 rfl ?_
    refine r_get 47 25 flX12_64 rfl (v := .ref 60) rfl dX12_rule_16 ?_
    refine r_aload_n dX12_rule_19 rfl ?_
    refine r_get 47 27 flX12_261 rfl (v := .int (gI u2 47 27)) rfl dX12_rule_20 ?_
    refine c_VV (As := [.ref 60, .int (gI u2 47 27)]) kvX12_288 rfl (by decide) (okX12_laysCode 60 (gI u2 47 27) u2) rfl (Nat.le_of_ble_eq_true rfl) rfl dX12_rule_23 (fun u3 => ?_)
    refine r_iload_n dX12_rule_26 rfl ?_
    exact r_ireturn rfl dX12_rule_27
theorem okX12_rule (u : US) : ∀ r, fX12_rule u = some r → MetC mX12_rule 402 [.ref 47] u (tI r) :=
  met_of (by decide +kernel) (Nat.le_of_ble_eq_true rfl) rfl (sX12_rule u)
def fX12_sheet_112 (v1 : Int32) (v2 : Int32) (v3 : Int32) (v4 : Int32) (k46 : Int32 → Int32 → Int32 → US → Option (Int32 × US)) (v5 : Int32) (v6 : Int32) (v7 : Int32) (s1 : Int32) (s2 : Int32) (u : US) : Option (Int32 × US) :=
  gd (inb s1 8) (nx (sA u 50 s1 s2) fun u1 => gd (inb v7 8) (k46 (v5 + (gA u1 50 v7)) (v6 + v4) (v7 + 1) u1))
set_option maxRecDepth 20000 in
theorem sX12_sheet_112 (v1 : Int32) (v2 : Int32) (v3 : Int32) (v4 : Int32) (k46 : Int32 → Int32 → Int32 → US → Option (Int32 × US)) (hk46 : ∀ (v5 : Int32) (v6 : Int32) (v7 : Int32) (u : US), Sim tI mX12_sheet 5 (k46 v5 v6 v7 u) 46 [some (.ref 47), some (.int v1), some (.int v2), some (.int v3), some (.int v4), some (.int v5), some (.int v6), some (.int v7), none] [] u) (v5 : Int32) (v6 : Int32) (v7 : Int32) (s1 : Int32) (s2 : Int32) (u : US) : Sim tI mX12_sheet 5 (fX12_sheet_112 v1 v2 v3 v4 k46 v5 v6 v7 s1 s2 u) 112 [some (.ref 47), some (.int v1), some (.int v2), some (.int v3), some (.int v4), some (.int v5), some (.int v6), some (.int v7), none] [.int s2, .int s1, .ref 50] u := by
  unfold fX12_sheet_112
  refine r_iast 50 rfl dX12_sheet_112 (r_nx (fun u1 => ?_))
  refine r_iload dX12_sheet_113 rfl ?_
  refine r_aload_n dX12_sheet_115 rfl ?_
  refine r_get 47 10 flX12_34 rfl (v := .ref 50) rfl dX12_sheet_116 ?_
  refine r_iload dX12_sheet_119 rfl ?_
  refine r_iald 50 rfl dX12_sheet_121 ?_
  refine r_iadd dX12_sheet_122 ?_
  refine r_istore dX12_sheet_123 (Nat.le_of_ble_eq_true rfl) (ls2 := [some (.ref 47), some (.int v1), some (.int v2), some (.int v3), some (.int v4), some (.int (v5 + (gA u1 50 v7))), some (.int v6), some (.int v7), none]) rfl ?_
  refine r_iload dX12_sheet_125 rfl ?_
  refine r_iload dX12_sheet_127 rfl ?_
  refine r_iadd dX12_sheet_129 ?_
  refine r_istore dX12_sheet_130 (Nat.le_of_ble_eq_true rfl) (ls2 := [some (.ref 47), some (.int v1), some (.int v2), some (.int v3), some (.int v4), some (.int (v5 + (gA u1 50 v7))), some (.int (v6 + v4)), some (.int v7), none]) rfl ?_
  refine r_iinc dX12_sheet_132 (Nat.le_of_ble_eq_true rfl) rfl (v := v7 + 1) rfl (ls2 := [some (.ref 47), some (.int v1), some (.int v2), some (.int v3), some (.int v4), some (.int (v5 + (gA u1 50 v7))), some (.int (v6 + v4)), some (.int (v7 + 1)), none]) rfl ?_
  refine r_goto dX12_sheet_135 (tgt := 46) rfl ?_
  exact hk46 (v5 + (gA u1 50 v7)) (v6 + v4) (v7 + 1) u1
def fX12_sheet_97 (v1 : Int32) (v2 : Int32) (v3 : Int32) (v4 : Int32) (k46 : Int32 → Int32 → Int32 → US → Option (Int32 × US)) (v5 : Int32) (v6 : Int32) (v7 : Int32) (s1 : Int32) (u : US) : Option (Int32 × US) :=
  fX12_sheet_112 v1 v2 v3 v4 k46 v5 v6 v7 s1 0 u
set_option maxRecDepth 20000 in
theorem sX12_sheet_97 (v1 : Int32) (v2 : Int32) (v3 : Int32) (v4 : Int32) (k46 : Int32 → Int32 → Int32 → US → Option (Int32 × US)) (hk46 : ∀ (v5 : Int32) (v6 : Int32) (v7 : Int32) (u : US), Sim tI mX12_sheet 5 (k46 v5 v6 v7 u) 46 [some (.ref 47), some (.int v1), some (.int v2), some (.int v3), some (.int v4), some (.int v5), some (.int v6), some (.int v7), none] [] u) (v5 : Int32) (v6 : Int32) (v7 : Int32) (s1 : Int32) (u : US) : Sim tI mX12_sheet 5 (fX12_sheet_97 v1 v2 v3 v4 k46 v5 v6 v7 s1 u) 97 [some (.ref 47), some (.int v1), some (.int v2), some (.int v3), some (.int v4), some (.int v5), some (.int v6), some (.int v7), none] [.int s1, .ref 50] u := by
  unfold fX12_sheet_97
  refine r_iconst dX12_sheet_97 (v := 0) rfl ?_
  refine r_goto dX12_sheet_98 (tgt := 112) rfl ?_
  exact sX12_sheet_112 v1 v2 v3 v4 k46 hk46 v5 v6 v7 s1 0 u
def fX12_sheet_78 (v1 : Int32) (v2 : Int32) (v3 : Int32) (v4 : Int32) (k46 : Int32 → Int32 → Int32 → US → Option (Int32 × US)) (v5 : Int32) (v6 : Int32) (v7 : Int32) (s0 : Int32) (u : US) : Option (Int32 × US) :=
  (if v1 = 3 then fX12_sheet_97 v1 v2 v3 v4 k46 v5 v6 v7 v7 u else (if v7 < v2 then fX12_sheet_112 v1 v2 v3 v4 k46 v5 v6 v7 v7 (if (0 : Int32) < (if s0 < 9 then s0 else 9) then if s0 < 9 then s0 else 9 else 0) u else fX12_sheet_97 v1 v2 v3 v4 k46 v5 v6 v7 v7 u))
set_option maxRecDepth 20000 in
theorem sX12_sheet_78 (v1 : Int32) (v2 : Int32) (v3 : Int32) (v4 : Int32) (k46 : Int32 → Int32 → Int32 → US → Option (Int32 × US)) (hk46 : ∀ (v5 : Int32) (v6 : Int32) (v7 : Int32) (u : US), Sim tI mX12_sheet 5 (k46 v5 v6 v7 u) 46 [some (.ref 47), some (.int v1), some (.int v2), some (.int v3), some (.int v4), some (.int v5), some (.int v6), some (.int v7), none] [] u) (v5 : Int32) (v6 : Int32) (v7 : Int32) (s0 : Int32) (u : US) : Sim tI mX12_sheet 5 (fX12_sheet_78 v1 v2 v3 v4 k46 v5 v6 v7 s0 u) 78 [some (.ref 47), some (.int v1), some (.int v2), some (.int v3), some (.int v4), some (.int v5), some (.int v6), some (.int v7), none] [.int s0] u := by
  unfold fX12_sheet_78
  refine r_istore dX12_sheet_78 (Nat.le_of_ble_eq_true rfl) (ls2 := [some (.ref 47), some (.int v1), some (.int v2), some (.int v3), some (.int v4), some (.int v5), some (.int v6), some (.int v7), some (.int s0)]) rfl ?_
  refine r_aload_n dX12_sheet_80 rfl ?_
  refine r_get 47 10 flX12_34 rfl (v := .ref 50) rfl dX12_sheet_81 ?_
  refine r_iload dX12_sheet_84 rfl ?_
  refine r_iload_n dX12_sheet_86 rfl ?_
  refine r_iconst dX12_sheet_87 (v := 3) rfl ?_
  refine r_icmp_eq dX12_sheet_88 (tgt := 97) rfl ?_ ?_
  · refine r_mk [true, true, true, true, true, true, true, true, false] (ls2 := [some (.ref 47), some (.int v1), some (.int v2), some (.int v3), some (.int v4), some (.int v5), some (.int v6), some (.int v7), none]) rfl ?_
    exact sX12_sheet_97 v1 v2 v3 v4 k46 hk46 v5 v6 v7 v7 u
  · refine r_iload dX12_sheet_91 rfl ?_
    refine r_iload_n dX12_sheet_93 rfl ?_
    refine r_icmp_lt dX12_sheet_94 (tgt := 101) rfl ?_ ?_
    · refine r_iconst dX12_sheet_101 (v := 0) rfl ?_
      refine r_bipush dX12_sheet_102 (v := 9) rfl ?_
      refine r_iload dX12_sheet_104 rfl ?_
      refine r_min kmX12_168 ktMath_min knMath kcMath_min (by decide) (Nat.le_of_ble_eq_true rfl) dX12_sheet_106 ?_
      refine r_max kmX12_351 ktMath_max knMath kcMath_max (by decide) (Nat.le_of_ble_eq_true rfl) dX12_sheet_109 ?_
      refine r_mk [true, true, true, true, true, true, true, true, false] (ls2 := [some (.ref 47), some (.int v1), some (.int v2), some (.int v3), some (.int v4), some (.int v5), some (.int v6), some (.int v7), none]) rfl ?_
      exact sX12_sheet_112 v1 v2 v3 v4 k46 hk46 v5 v6 v7 v7 (if (0 : Int32) < (if s0 < 9 then s0 else 9) then if s0 < 9 then s0 else 9 else 0) u
    · refine r_mk [true, true, true, true, true, true, true, true, false] (ls2 := [some (.ref 47), some (.int v1), some (.int v2), some (.int v3), some (.int v4), some (.int v5), some (.int v6), some (.int v7), none]) rfl ?_
      exact sX12_sheet_97 v1 v2 v3 v4 k46 hk46 v5 v6 v7 v7 u
def fX12_sheet_46 (v1 : Int32) (v2 : Int32) (v3 : Int32) (v4 : Int32) : Nat → Int32 → Int32 → Int32 → US → Option (Int32 × US)
  | 0, _, _, _, _ => none
  | n + 1, v5, v6, v7, u => (if (gI u 47 5) ≤ v7 then (if v1 = 3 then some ((-3), u) else some (v5, u)) else (if v1 = 0 then fX12_sheet_78 v1 v2 v3 v4 (fX12_sheet_46 v1 v2 v3 v4 n) v5 v6 v7 ((v6 : Int32).toInt8.toInt32) u else (if v1 = 1 then fX12_sheet_78 v1 v2 v3 v4 (fX12_sheet_46 v1 v2 v3 v4 n) v5 v6 v7 ((v6 : Int32).toInt16.toInt32) u else fX12_sheet_78 v1 v2 v3 v4 (fX12_sheet_46 v1 v2 v3 v4 n) v5 v6 v7 v6 u)))
set_option maxRecDepth 20000 in
theorem sX12_sheet_46 (v1 : Int32) (v2 : Int32) (v3 : Int32) (v4 : Int32) : ∀ (n : Nat) (v5 : Int32) (v6 : Int32) (v7 : Int32) (u : US), Sim tI mX12_sheet 5 (fX12_sheet_46 v1 v2 v3 v4 n v5 v6 v7 u) 46 [some (.ref 47), some (.int v1), some (.int v2), some (.int v3), some (.int v4), some (.int v5), some (.int v6), some (.int v7), none] [] u := by
  intro n
  induction n with
  | zero =>
    intro v5 v6 v7 u
    rw [fX12_sheet_46.eq_1]
    exact r_none
  | succ n ih =>
    intro v5 v6 v7 u
    rw [fX12_sheet_46.eq_2]
    refine r_iload dX12_sheet_46 rfl ?_
    refine r_aload_n dX12_sheet_48 rfl ?_
    refine r_get 47 5 flX12_140 rfl (v := .int (gI u 47 5)) rfl dX12_sheet_49 ?_
    refine r_icmp_ge dX12_sheet_52 (tgt := 138) rfl ?_ ?_
    · refine r_iload_n dX12_sheet_138 rfl ?_
      refine r_iconst dX12_sheet_139 (v := 3) rfl ?_
      refine r_icmp_ne dX12_sheet_140 (tgt := 148) rfl ?_ ?_
      · refine r_iload dX12_sheet_148 rfl ?_
        exact r_ireturn rfl dX12_sheet_150
      · refine r_bipush dX12_sheet_143 (v := -3) rfl ?_
        refine r_goto dX12_sheet_145 (tgt := 150) rfl ?_
        exact r_ireturn rfl dX12_sheet_150
    · refine r_iload_n dX12_sheet_55 rfl ?_
      refine r_if_ne dX12_sheet_56 (tgt := 65) rfl ?_ ?_
      · refine r_iload_n dX12_sheet_65 rfl ?_
        refine r_iconst dX12_sheet_66 (v := 1) rfl ?_
        refine r_icmp_ne dX12_sheet_67 (tgt := 76) rfl ?_ ?_
        · refine r_iload dX12_sheet_76 rfl ?_
          exact sX12_sheet_78 v1 v2 v3 v4 (fX12_sheet_46 v1 v2 v3 v4 n) ih v5 v6 v7 v6 u
        · refine r_iload dX12_sheet_70 rfl ?_
          refine r_i2s dX12_sheet_72 ?_
          refine r_goto dX12_sheet_73 (tgt := 78) rfl ?_
          exact sX12_sheet_78 v1 v2 v3 v4 (fX12_sheet_46 v1 v2 v3 v4 n) ih v5 v6 v7 ((v6 : Int32).toInt16.toInt32) u
      · refine r_iload dX12_sheet_59 rfl ?_
        refine r_i2b dX12_sheet_61 ?_
        refine r_goto dX12_sheet_62 (tgt := 78) rfl ?_
        exact sX12_sheet_78 v1 v2 v3 v4 (fX12_sheet_46 v1 v2 v3 v4 n) ih v5 v6 v7 ((v6 : Int32).toInt8.toInt32) u
def fX12_sheet_37 (v1 : Int32) (v2 : Int32) (v3 : Int32) (v4 : Int32) (u : US) : Option (Int32 × US) :=
  fX12_sheet_46 v1 v2 v3 v4 FU 0 v3 0 u
set_option maxRecDepth 20000 in
theorem sX12_sheet_37 (v1 : Int32) (v2 : Int32) (v3 : Int32) (v4 : Int32) (u : US) : Sim tI mX12_sheet 5 (fX12_sheet_37 v1 v2 v3 v4 u) 37 [some (.ref 47), some (.int v1), some (.int v2), some (.int v3), some (.int v4), none, none, none, none] [] u := by
  unfold fX12_sheet_37
  refine r_iconst dX12_sheet_37 (v := 0) rfl ?_
  refine r_istore dX12_sheet_38 (Nat.le_of_ble_eq_true rfl) (ls2 := [some (.ref 47), some (.int v1), some (.int v2), some (.int v3), some (.int v4), some (.int 0), none, none, none]) rfl ?_
  refine r_iload_n dX12_sheet_40 rfl ?_
  refine r_istore dX12_sheet_41 (Nat.le_of_ble_eq_true rfl) (ls2 := [some (.ref 47), some (.int v1), some (.int v2), some (.int v3), some (.int v4), some (.int 0), some (.int v3), none, none]) rfl ?_
  refine r_iconst dX12_sheet_43 (v := 0) rfl ?_
  refine r_istore dX12_sheet_44 (Nat.le_of_ble_eq_true rfl) (ls2 := [some (.ref 47), some (.int v1), some (.int v2), some (.int v3), some (.int v4), some (.int 0), some (.int v3), some (.int 0), none]) rfl ?_
  exact sX12_sheet_46 v1 v2 v3 v4 FU 0 v3 0 u
def fX12_sheet (v1 : Int32) (v2 : Int32) (v3 : Int32) (v4 : Int32) (u : US) : Option (Int32 × US) :=
  nx (sI u 47 0 0) fun u1 => oB (fX12_in ((v1 : Int32).toInt64) 0 3 u1) fun r2 u2 => (if r2 = 0 then some ((-1), u2) else (if v2 ≤ 8 then (if v1 = 3 then fX12_sheet_37 v1 v2 v3 v4 u2 else (if 0 ≤ v2 then fX12_sheet_37 v1 v2 v3 v4 u2 else some ((-2), u2))) else some ((-1), u2)))
set_option maxRecDepth 20000 in
theorem sX12_sheet (v1 : Int32) (v2 : Int32) (v3 : Int32) (v4 : Int32) (u : US) : Sim tI mX12_sheet 5 (fX12_sheet v1 v2 v3 v4 u) 0 [some (.ref 47), some (.int v1), some (.int v2), some (.int v3), some (.int v4), none, none, none, none] [] u := by
  unfold fX12_sheet
  refine r_aload_n dX12_sheet_0 rfl ?_
  refine r_iconst dX12_sheet_1 (v := 0) rfl ?_
  refine r_put 47 0 fpX12_3 rfl rfl dX12_sheet_2 (r_nx (fun u1 => ?_))
  refine r_iload_n dX12_sheet_5 rfl ?_
  refine r_i2l dX12_sheet_6 ?_
  refine r_lconst dX12_sheet_7 (v := 0) rfl ?_
  refine r_ldc2 dX12_sheet_8 kJX12_349 ?_
  refine c_SI (As := [.long ((v1 : Int32).toInt64), .long 0, .long 3]) ksX12_143 (by decide) (okX12_in ((v1 : Int32).toInt64) 0 3 u1) rfl (Nat.le_of_ble_eq_true rfl) rfl dX12_sheet_11 (fun r2 u2 => ?_)
  refine r_if_eq dX12_sheet_14 (tgt := 23) rfl ?_ ?_
  · refine r_iconst dX12_sheet_23 (v := -1) rfl ?_
    exact r_ireturn rfl dX12_sheet_24
  · refine r_iload_n dX12_sheet_17 rfl ?_
    refine r_bipush dX12_sheet_18 (v := 8) rfl ?_
    refine r_icmp_le dX12_sheet_20 (tgt := 25) rfl ?_ ?_
    · refine r_iload_n dX12_sheet_25 rfl ?_
      refine r_iconst dX12_sheet_26 (v := 3) rfl ?_
      refine r_icmp_eq dX12_sheet_27 (tgt := 37) rfl ?_ ?_
      · exact sX12_sheet_37 v1 v2 v3 v4 u2
      · refine r_iload_n dX12_sheet_30 rfl ?_
        refine r_if_ge dX12_sheet_31 (tgt := 37) rfl ?_ ?_
        · exact sX12_sheet_37 v1 v2 v3 v4 u2
        · refine r_bipush dX12_sheet_34 (v := -2) rfl ?_
          exact r_ireturn rfl dX12_sheet_36
    · refine r_iconst dX12_sheet_23 (v := -1) rfl ?_
      exact r_ireturn rfl dX12_sheet_24
theorem okX12_sheet (v1 : Int32) (v2 : Int32) (v3 : Int32) (v4 : Int32) (u : US) : ∀ r, fX12_sheet v1 v2 v3 v4 u = some r → MetC mX12_sheet 5 [.ref 47, .int v1, .int v2, .int v3, .int v4] u (tI r) :=
  met_of (by decide +kernel) (Nat.le_of_ble_eq_true rfl) rfl (sX12_sheet v1 v2 v3 v4 u)
def fX12_sign_18 (v1 : Int32) : Nat → Int32 → US → Option (Int32 × US)
  | 0, _, _ => none
  | n + 1, v2, u => (if (4 : Int32) ≤ v2 then nx (sI u 47 18 ((gI u 47 18) + 4)) fun u1 => some (gI u1 47 18, u1) else gd (inb ((gI u 47 18) + v2) 80) (nx (sA u 57 ((gI u 47 18) + v2) ((v1 >>> ((24 - (8 * v2)) &&& 31)) &&& 255)) fun u2 => fX12_sign_18 v1 n (v2 + 1) u2))
set_option maxRecDepth 20000 in
theorem sX12_sign_18 (v1 : Int32) : ∀ (n : Nat) (v2 : Int32) (u : US), Sim tI mX12_sign 0 (fX12_sign_18 v1 n v2 u) 18 [some (.ref 47), some (.int v1), some (.int v2)] [] u := by
  intro n
  induction n with
  | zero =>
    intro v2 u
    rw [fX12_sign_18.eq_1]
    exact r_none
  | succ n ih =>
    intro v2 u
    rw [fX12_sign_18.eq_2]
    refine r_iload_n dX12_sign_18 rfl ?_
    refine r_iconst dX12_sign_19 (v := 4) rfl ?_
    refine r_icmp_ge dX12_sign_20 (tgt := 53) rfl ?_ ?_
    · refine r_aload_n dX12_sign_53 rfl ?_
      refine r_dup dX12_sign_54 rfl ?_
      refine r_get 47 18 flX12_159 rfl (v := .int (gI u 47 18)) rfl dX12_sign_55 ?_
      refine r_iconst dX12_sign_58 (v := 4) rfl ?_
      refine r_iadd dX12_sign_59 ?_
      refine r_put 47 18 fpX12_159 rfl rfl dX12_sign_60 (r_nx (fun u1 => ?_))
      refine r_aload_n dX12_sign_63 rfl ?_
      refine r_get 47 18 flX12_159 rfl (v := .int (gI u1 47 18)) rfl dX12_sign_64 ?_
      exact r_ireturn rfl dX12_sign_67
    · refine r_aload_n dX12_sign_23 rfl ?_
      refine r_get 47 17 flX12_55 rfl (v := .ref 57) rfl dX12_sign_24 ?_
      refine r_aload_n dX12_sign_27 rfl ?_
      refine r_get 47 18 flX12_159 rfl (v := .int (gI u 47 18)) rfl dX12_sign_28 ?_
      refine r_iload_n dX12_sign_31 rfl ?_
      refine r_iadd dX12_sign_32 ?_
      refine r_iload_n dX12_sign_33 rfl ?_
      refine r_bipush dX12_sign_34 (v := 24) rfl ?_
      refine r_bipush dX12_sign_36 (v := 8) rfl ?_
      refine r_iload_n dX12_sign_38 rfl ?_
      refine r_imul dX12_sign_39 ?_
      refine r_isub dX12_sign_40 ?_
      refine r_ishr dX12_sign_41 ?_
      refine r_sipush dX12_sign_42 (v := 255) rfl ?_
      refine r_iand dX12_sign_45 ?_
      refine r_iast 57 rfl dX12_sign_46 (r_nx (fun u2 => ?_))
      refine r_iinc dX12_sign_47 (Nat.le_of_ble_eq_true rfl) rfl (v := v2 + 1) rfl (ls2 := [some (.ref 47), some (.int v1), some (.int (v2 + 1))]) rfl ?_
      refine r_goto dX12_sign_50 (tgt := 18) rfl ?_
      exact ih (v2 + 1) u2
def fX12_sign (v1 : Int32) (u : US) : Option (Int32 × US) :=
  nx (sI u 47 0 0) fun u1 => (if (gI u1 47 18) ≤ 76 then fX12_sign_18 v1 FU 0 u1 else some ((-1), u1))
set_option maxRecDepth 20000 in
theorem sX12_sign (v1 : Int32) (u : US) : Sim tI mX12_sign 0 (fX12_sign v1 u) 0 [some (.ref 47), some (.int v1), none] [] u := by
  unfold fX12_sign
  refine r_aload_n dX12_sign_0 rfl ?_
  refine r_iconst dX12_sign_1 (v := 0) rfl ?_
  refine r_put 47 0 fpX12_3 rfl rfl dX12_sign_2 (r_nx (fun u1 => ?_))
  refine r_aload_n dX12_sign_5 rfl ?_
  refine r_get 47 18 flX12_159 rfl (v := .int (gI u1 47 18)) rfl dX12_sign_6 ?_
  refine r_bipush dX12_sign_9 (v := 76) rfl ?_
  refine r_icmp_le dX12_sign_11 (tgt := 16) rfl ?_ ?_
  · refine r_iconst dX12_sign_16 (v := 0) rfl ?_
    refine r_istore_n dX12_sign_17 (Nat.le_of_ble_eq_true rfl) (ls2 := [some (.ref 47), some (.int v1), some (.int 0)]) rfl ?_
    exact sX12_sign_18 v1 FU 0 u1
  · refine r_iconst dX12_sign_14 (v := -1) rfl ?_
    exact r_ireturn rfl dX12_sign_15
theorem okX12_sign (v1 : Int32) (u : US) : ∀ r, fX12_sign v1 u = some r → MetC mX12_sign 0 [.ref 47, .int v1] u (tI r) :=
  met_of (by decide +kernel) (Nat.le_of_ble_eq_true rfl) rfl (sX12_sign v1 u)
def fX12_slips_231 (v1 : Int32) (v2 : Int32) (v3 : Int32) (v4 : Int32) (k81 : Int32 → US → Option (Int32 × US)) : Nat → Int32 → Int32 → US → Option (Int32 × US)
  | 0, _, _, _ => none
  | n + 1, v5, v6, u => (if ((gI u 47 3) * (gI u 47 4)) ≤ v6 then gd (inb 25 26) (gd (inb 25 26) (nx (sA u 56 25 ((gA u 56 25) + 1)) fun u1 => k81 (v5 + 1) u1)) else gd (inb v6 36) (gd (inb v6 36) (nx (sA u 73 v6 (vp_nar .boolean (gA u 72 v6))) fun u2 => fX12_slips_231 v1 v2 v3 v4 k81 n v5 (v6 + 1) u2)))
set_option maxRecDepth 20000 in
theorem sX12_slips_231 (v1 : Int32) (v2 : Int32) (v3 : Int32) (v4 : Int32) (k81 : Int32 → US → Option (Int32 × US)) (hk81 : ∀ (v5 : Int32) (u : US), Sim tI mX12_slips 9 (k81 v5 u) 81 [some (.ref 47), some (.int v1), some (.int v2), some (.int v3), some (.int v4), some (.int v5), none, none, none, none] [] u) : ∀ (n : Nat) (v5 : Int32) (v6 : Int32) (u : US), Sim tI mX12_slips 9 (fX12_slips_231 v1 v2 v3 v4 k81 n v5 v6 u) 231 [some (.ref 47), some (.int v1), some (.int v2), some (.int v3), some (.int v4), some (.int v5), some (.int v6), none, none, none] [] u := by
  intro n
  induction n with
  | zero =>
    intro v5 v6 u
    rw [fX12_slips_231.eq_1]
    exact r_none
  | succ n ih =>
    intro v5 v6 u
    rw [fX12_slips_231.eq_2]
    refine r_iload dX12_slips_231 rfl ?_
    refine r_aload_n dX12_slips_233 rfl ?_
    refine r_get 47 3 flX12_24 rfl (v := .int (gI u 47 3)) rfl dX12_slips_234 ?_
    refine r_aload_n dX12_slips_237 rfl ?_
    refine r_get 47 4 flX12_27 rfl (v := .int (gI u 47 4)) rfl dX12_slips_238 ?_
    refine r_imul dX12_slips_241 ?_
    refine r_icmp_ge dX12_slips_242 (tgt := 265) rfl ?_ ?_
    · refine r_aload_n dX12_slips_265 rfl ?_
      refine r_get 47 16 flX12_52 rfl (v := .ref 56) rfl dX12_slips_266 ?_
      refine r_bipush dX12_slips_269 (v := 25) rfl ?_
      refine r_dup2 dX12_slips_271 rfl rfl ?_
      refine r_iald 56 rfl dX12_slips_272 ?_
      refine r_iconst dX12_slips_273 (v := 1) rfl ?_
      refine r_iadd dX12_slips_274 ?_
      refine r_iast 56 rfl dX12_slips_275 (r_nx (fun u1 => ?_))
      refine r_iinc dX12_slips_276 (Nat.le_of_ble_eq_true rfl) rfl (v := v5 + 1) rfl (ls2 := [some (.ref 47), some (.int v1), some (.int v2), some (.int v3), some (.int v4), some (.int (v5 + 1)), some (.int v6), none, none, none]) rfl ?_
      refine r_goto dX12_slips_279 (tgt := 81) rfl ?_
      refine r_mk [true, true, true, true, true, true, false, false, false, false] (ls2 := [some (.ref 47), some (.int v1), some (.int v2), some (.int v3), some (.int v4), some (.int (v5 + 1)), none, none, none, none]) rfl ?_
      exact hk81 (v5 + 1) u1
    · refine r_aload_n dX12_slips_245 rfl ?_
      refine r_get 47 42 flX12_104 rfl (v := .ref 73) rfl dX12_slips_246 ?_
      refine r_iload dX12_slips_249 rfl ?_
      refine r_aload_n dX12_slips_251 rfl ?_
      refine r_get 47 41 flX12_101 rfl (v := .ref 72) rfl dX12_slips_252 ?_
      refine r_iload dX12_slips_255 rfl ?_
      refine r_zald 72 rfl dX12_slips_257 ?_
      refine r_zast 73 rfl dX12_slips_258 (r_nx (fun u2 => ?_))
      refine r_iinc dX12_slips_259 (Nat.le_of_ble_eq_true rfl) rfl (v := v6 + 1) rfl (ls2 := [some (.ref 47), some (.int v1), some (.int v2), some (.int v3), some (.int v4), some (.int v5), some (.int (v6 + 1)), none, none, none]) rfl ?_
      refine r_goto dX12_slips_262 (tgt := 231) rfl ?_
      exact ih v5 (v6 + 1) u2
def fX12_slips_183 (v1 : Int32) (v2 : Int32) (v3 : Int32) (v4 : Int32) (k81 : Int32 → US → Option (Int32 × US)) (k103 : Int32 → Int32 → US → Option (Int32 × US)) (v5 : Int32) (v6 : Int32) (v7 : Int32) (u : US) : Option (Int32 × US) :=
  (if v7 = 0 then gd (inb v6 36) (nx (sA u 72 v6 (vp_nar .boolean 0)) fun u1 => k103 v5 (v6 + 1) u1) else gd (inb v6 36) ((if (gA u 70 v6) = 0 then gd (inb v6 36) (nx (sA u 72 v6 (vp_nar .boolean 0)) fun u2 => k103 v5 (v6 + 1) u2) else gd (inb v6 36) (nx (sA u 72 v6 (vp_nar .boolean 1)) fun u3 => k103 v5 (v6 + 1) u3))))
set_option maxRecDepth 20000 in
theorem sX12_slips_183 (v1 : Int32) (v2 : Int32) (v3 : Int32) (v4 : Int32) (k81 : Int32 → US → Option (Int32 × US)) (k103 : Int32 → Int32 → US → Option (Int32 × US)) (hk81 : ∀ (v5 : Int32) (u : US), Sim tI mX12_slips 9 (k81 v5 u) 81 [some (.ref 47), some (.int v1), some (.int v2), some (.int v3), some (.int v4), some (.int v5), none, none, none, none] [] u) (hk103 : ∀ (v5 : Int32) (v6 : Int32) (u : US), Sim tI mX12_slips 9 (k103 v5 v6 u) 103 [some (.ref 47), some (.int v1), some (.int v2), some (.int v3), some (.int v4), some (.int v5), some (.int v6), none, none, none] [] u) (v5 : Int32) (v6 : Int32) (v7 : Int32) (u : US) : Sim tI mX12_slips 9 (fX12_slips_183 v1 v2 v3 v4 k81 k103 v5 v6 v7 u) 183 [some (.ref 47), some (.int v1), some (.int v2), some (.int v3), some (.int v4), some (.int v5), some (.int v6), some (.int v7), none, none] [] u := by
  unfold fX12_slips_183
  refine r_aload_n dX12_slips_183 rfl ?_
  refine r_get 47 41 flX12_101 rfl (v := .ref 72) rfl dX12_slips_184 ?_
  refine r_iload dX12_slips_187 rfl ?_
  refine r_iload dX12_slips_189 rfl ?_
  refine r_if_eq dX12_slips_191 (tgt := 208) rfl ?_ ?_
  · refine r_iconst dX12_slips_208 (v := 0) rfl ?_
    refine r_zast 72 rfl dX12_slips_209 (r_nx (fun u1 => ?_))
    refine r_iinc dX12_slips_210 (Nat.le_of_ble_eq_true rfl) rfl (v := v6 + 1) rfl (ls2 := [some (.ref 47), some (.int v1), some (.int v2), some (.int v3), some (.int v4), some (.int v5), some (.int (v6 + 1)), some (.int v7), none, none]) rfl ?_
    refine r_goto dX12_slips_213 (tgt := 103) rfl ?_
    refine r_mk [true, true, true, true, true, true, true, false, false, false] (ls2 := [some (.ref 47), some (.int v1), some (.int v2), some (.int v3), some (.int v4), some (.int v5), some (.int (v6 + 1)), none, none, none]) rfl ?_
    exact hk103 v5 (v6 + 1) u1
  · refine r_aload_n dX12_slips_194 rfl ?_
    refine r_get 47 39 flX12_94 rfl (v := .ref 70) rfl dX12_slips_195 ?_
    refine r_iload dX12_slips_198 rfl ?_
    refine r_zald 70 rfl dX12_slips_200 ?_
    refine r_if_eq dX12_slips_201 (tgt := 208) rfl ?_ ?_
    · refine r_iconst dX12_slips_208 (v := 0) rfl ?_
      refine r_zast 72 rfl dX12_slips_209 (r_nx (fun u2 => ?_))
      refine r_iinc dX12_slips_210 (Nat.le_of_ble_eq_true rfl) rfl (v := v6 + 1) rfl (ls2 := [some (.ref 47), some (.int v1), some (.int v2), some (.int v3), some (.int v4), some (.int v5), some (.int (v6 + 1)), some (.int v7), none, none]) rfl ?_
      refine r_goto dX12_slips_213 (tgt := 103) rfl ?_
      refine r_mk [true, true, true, true, true, true, true, false, false, false] (ls2 := [some (.ref 47), some (.int v1), some (.int v2), some (.int v3), some (.int v4), some (.int v5), some (.int (v6 + 1)), none, none, none]) rfl ?_
      exact hk103 v5 (v6 + 1) u2
    · refine r_iconst dX12_slips_204 (v := 1) rfl ?_
      refine r_goto dX12_slips_205 (tgt := 209) rfl ?_
      refine r_zast 72 rfl dX12_slips_209 (r_nx (fun u3 => ?_))
      refine r_iinc dX12_slips_210 (Nat.le_of_ble_eq_true rfl) rfl (v := v6 + 1) rfl (ls2 := [some (.ref 47), some (.int v1), some (.int v2), some (.int v3), some (.int v4), some (.int v5), some (.int (v6 + 1)), some (.int v7), none, none]) rfl ?_
      refine r_goto dX12_slips_213 (tgt := 103) rfl ?_
      refine r_mk [true, true, true, true, true, true, true, false, false, false] (ls2 := [some (.ref 47), some (.int v1), some (.int v2), some (.int v3), some (.int v4), some (.int v5), some (.int (v6 + 1)), none, none, none]) rfl ?_
      exact hk103 v5 (v6 + 1) u3
def fX12_slips_129 (v1 : Int32) (v2 : Int32) (v3 : Int32) (v4 : Int32) (k81 : Int32 → US → Option (Int32 × US)) (k103 : Int32 → Int32 → US → Option (Int32 × US)) : Nat → Int32 → Int32 → Int32 → Int32 → US → Option (Int32 × US)
  | 0, _, _, _, _, _ => none
  | n + 1, v5, v6, v7, v8, u => (if (4 : Int32) ≤ v8 then fX12_slips_183 v1 v2 v3 v4 k81 k103 v5 v6 v7 u else (if v5 ≤ 0 then fX12_slips_183 v1 v2 v3 v4 k81 k103 v5 v6 v7 u else oB (fX12_beside v6 v8 u) fun r1 u1 => (if v7 = 0 then (if r1 < 0 then fX12_slips_129 v1 v2 v3 v4 k81 k103 n v5 v6 0 (v8 + 1) u1 else gd (inb r1 36) ((if (gA u1 73 r1) = 0 then fX12_slips_129 v1 v2 v3 v4 k81 k103 n v5 v6 0 (v8 + 1) u1 else fX12_slips_129 v1 v2 v3 v4 k81 k103 n v5 v6 1 (v8 + 1) u1))) else fX12_slips_129 v1 v2 v3 v4 k81 k103 n v5 v6 1 (v8 + 1) u1)))
set_option maxRecDepth 20000 in
theorem sX12_slips_129 (v1 : Int32) (v2 : Int32) (v3 : Int32) (v4 : Int32) (k81 : Int32 → US → Option (Int32 × US)) (k103 : Int32 → Int32 → US → Option (Int32 × US)) (hk81 : ∀ (v5 : Int32) (u : US), Sim tI mX12_slips 9 (k81 v5 u) 81 [some (.ref 47), some (.int v1), some (.int v2), some (.int v3), some (.int v4), some (.int v5), none, none, none, none] [] u) (hk103 : ∀ (v5 : Int32) (v6 : Int32) (u : US), Sim tI mX12_slips 9 (k103 v5 v6 u) 103 [some (.ref 47), some (.int v1), some (.int v2), some (.int v3), some (.int v4), some (.int v5), some (.int v6), none, none, none] [] u) : ∀ (n : Nat) (v5 : Int32) (v6 : Int32) (v7 : Int32) (v8 : Int32) (u : US), Sim tI mX12_slips 9 (fX12_slips_129 v1 v2 v3 v4 k81 k103 n v5 v6 v7 v8 u) 129 [some (.ref 47), some (.int v1), some (.int v2), some (.int v3), some (.int v4), some (.int v5), some (.int v6), some (.int v7), some (.int v8), none] [] u := by
  intro n
  induction n with
  | zero =>
    intro v5 v6 v7 v8 u
    rw [fX12_slips_129.eq_1]
    exact r_none
  | succ n ih =>
    intro v5 v6 v7 v8 u
    rw [fX12_slips_129.eq_2]
    refine r_iload dX12_slips_129 rfl ?_
    refine r_iconst dX12_slips_131 (v := 4) rfl ?_
    refine r_icmp_ge dX12_slips_132 (tgt := 183) rfl ?_ ?_
    · refine r_mk [true, true, true, true, true, true, true, true, false, false] (ls2 := [some (.ref 47), some (.int v1), some (.int v2), some (.int v3), some (.int v4), some (.int v5), some (.int v6), some (.int v7), none, none]) rfl ?_
      exact sX12_slips_183 v1 v2 v3 v4 k81 k103 hk81 hk103 v5 v6 v7 u
    · refine r_iload dX12_slips_135 rfl ?_
      refine r_if_le dX12_slips_137 (tgt := 183) rfl ?_ ?_
      · refine r_mk [true, true, true, true, true, true, true, true, false, false] (ls2 := [some (.ref 47), some (.int v1), some (.int v2), some (.int v3), some (.int v4), some (.int v5), some (.int v6), some (.int v7), none, none]) rfl ?_
        exact sX12_slips_183 v1 v2 v3 v4 k81 k103 hk81 hk103 v5 v6 v7 u
      · refine r_aload_n dX12_slips_140 rfl ?_
        refine r_iload dX12_slips_141 rfl ?_
        refine r_iload dX12_slips_143 rfl ?_
        refine c_VI (As := [.int v6, .int v8]) kvX12_357 rfl (by decide) (okX12_beside v6 v8 u) rfl (Nat.le_of_ble_eq_true rfl) rfl dX12_slips_145 (fun r1 u1 => ?_)
        refine r_istore dX12_slips_148 (Nat.le_of_ble_eq_true rfl) (ls2 := [some (.ref 47), some (.int v1), some (.int v2), some (.int v3), some (.int v4), some (.int v5), some (.int v6), some (.int v7), some (.int v8), some (.int r1)]) rfl ?_
        refine r_iload dX12_slips_150 rfl ?_
        refine r_if_ne dX12_slips_152 (tgt := 170) rfl ?_ ?_
        · refine r_iconst dX12_slips_170 (v := 1) rfl ?_
          refine r_goto dX12_slips_171 (tgt := 175) rfl ?_
          refine r_istore dX12_slips_175 (Nat.le_of_ble_eq_true rfl) (ls2 := [some (.ref 47), some (.int v1), some (.int v2), some (.int v3), some (.int v4), some (.int v5), some (.int v6), some (.int 1), some (.int v8), some (.int r1)]) rfl ?_
          refine r_iinc dX12_slips_177 (Nat.le_of_ble_eq_true rfl) rfl (v := v8 + 1) rfl (ls2 := [some (.ref 47), some (.int v1), some (.int v2), some (.int v3), some (.int v4), some (.int v5), some (.int v6), some (.int 1), some (.int (v8 + 1)), some (.int r1)]) rfl ?_
          refine r_goto dX12_slips_180 (tgt := 129) rfl ?_
          refine r_mk [true, true, true, true, true, true, true, true, true, false] (ls2 := [some (.ref 47), some (.int v1), some (.int v2), some (.int v3), some (.int v4), some (.int v5), some (.int v6), some (.int 1), some (.int (v8 + 1)), none]) rfl ?_
          exact ih v5 v6 1 (v8 + 1) u1
        · refine r_iload dX12_slips_155 rfl ?_
          refine r_if_lt dX12_slips_157 (tgt := 174) rfl ?_ ?_
          · refine r_iconst dX12_slips_174 (v := 0) rfl ?_
            refine r_istore dX12_slips_175 (Nat.le_of_ble_eq_true rfl) (ls2 := [some (.ref 47), some (.int v1), some (.int v2), some (.int v3), some (.int v4), some (.int v5), some (.int v6), some (.int 0), some (.int v8), some (.int r1)]) rfl ?_
            refine r_iinc dX12_slips_177 (Nat.le_of_ble_eq_true rfl) rfl (v := v8 + 1) rfl (ls2 := [some (.ref 47), some (.int v1), some (.int v2), some (.int v3), some (.int v4), some (.int v5), some (.int v6), some (.int 0), some (.int (v8 + 1)), some (.int r1)]) rfl ?_
            refine r_goto dX12_slips_180 (tgt := 129) rfl ?_
            refine r_mk [true, true, true, true, true, true, true, true, true, false] (ls2 := [some (.ref 47), some (.int v1), some (.int v2), some (.int v3), some (.int v4), some (.int v5), some (.int v6), some (.int 0), some (.int (v8 + 1)), none]) rfl ?_
            exact ih v5 v6 0 (v8 + 1) u1
          · refine r_aload_n dX12_slips_160 rfl ?_
            refine r_get 47 42 flX12_104 rfl (v := .ref 73) rfl dX12_slips_161 ?_
            refine r_iload dX12_slips_164 rfl ?_
            refine r_zald 73 rfl dX12_slips_166 ?_
            refine r_if_eq dX12_slips_167 (tgt := 174) rfl ?_ ?_
            · refine r_iconst dX12_slips_174 (v := 0) rfl ?_
              refine r_istore dX12_slips_175 (Nat.le_of_ble_eq_true rfl) (ls2 := [some (.ref 47), some (.int v1), some (.int v2), some (.int v3), some (.int v4), some (.int v5), some (.int v6), some (.int 0), some (.int v8), some (.int r1)]) rfl ?_
              refine r_iinc dX12_slips_177 (Nat.le_of_ble_eq_true rfl) rfl (v := v8 + 1) rfl (ls2 := [some (.ref 47), some (.int v1), some (.int v2), some (.int v3), some (.int v4), some (.int v5), some (.int v6), some (.int 0), some (.int (v8 + 1)), some (.int r1)]) rfl ?_
              refine r_goto dX12_slips_180 (tgt := 129) rfl ?_
              refine r_mk [true, true, true, true, true, true, true, true, true, false] (ls2 := [some (.ref 47), some (.int v1), some (.int v2), some (.int v3), some (.int v4), some (.int v5), some (.int v6), some (.int 0), some (.int (v8 + 1)), none]) rfl ?_
              exact ih v5 v6 0 (v8 + 1) u1
            · refine r_iconst dX12_slips_170 (v := 1) rfl ?_
              refine r_goto dX12_slips_171 (tgt := 175) rfl ?_
              refine r_istore dX12_slips_175 (Nat.le_of_ble_eq_true rfl) (ls2 := [some (.ref 47), some (.int v1), some (.int v2), some (.int v3), some (.int v4), some (.int v5), some (.int v6), some (.int 1), some (.int v8), some (.int r1)]) rfl ?_
              refine r_iinc dX12_slips_177 (Nat.le_of_ble_eq_true rfl) rfl (v := v8 + 1) rfl (ls2 := [some (.ref 47), some (.int v1), some (.int v2), some (.int v3), some (.int v4), some (.int v5), some (.int v6), some (.int 1), some (.int (v8 + 1)), some (.int r1)]) rfl ?_
              refine r_goto dX12_slips_180 (tgt := 129) rfl ?_
              refine r_mk [true, true, true, true, true, true, true, true, true, false] (ls2 := [some (.ref 47), some (.int v1), some (.int v2), some (.int v3), some (.int v4), some (.int v5), some (.int v6), some (.int 1), some (.int (v8 + 1)), none]) rfl ?_
              exact ih v5 v6 1 (v8 + 1) u1
def fX12_slips_103 (v1 : Int32) (v2 : Int32) (v3 : Int32) (v4 : Int32) (k81 : Int32 → US → Option (Int32 × US)) : Nat → Int32 → Int32 → US → Option (Int32 × US)
  | 0, _, _, _ => none
  | n + 1, v5, v6, u => (if ((gI u 47 3) * (gI u 47 4)) ≤ v6 then gd (inb v2 36) ((if (gA u 72 v2) = 0 then fX12_slips_231 v1 v2 v3 v4 k81 FU v5 0 u else some (v5, u))) else gd (inb v6 36) (fX12_slips_129 v1 v2 v3 v4 k81 (fX12_slips_103 v1 v2 v3 v4 k81 n) FU v5 v6 (gA u 73 v6) 0 u))
set_option maxRecDepth 20000 in
theorem sX12_slips_103 (v1 : Int32) (v2 : Int32) (v3 : Int32) (v4 : Int32) (k81 : Int32 → US → Option (Int32 × US)) (hk81 : ∀ (v5 : Int32) (u : US), Sim tI mX12_slips 9 (k81 v5 u) 81 [some (.ref 47), some (.int v1), some (.int v2), some (.int v3), some (.int v4), some (.int v5), none, none, none, none] [] u) : ∀ (n : Nat) (v5 : Int32) (v6 : Int32) (u : US), Sim tI mX12_slips 9 (fX12_slips_103 v1 v2 v3 v4 k81 n v5 v6 u) 103 [some (.ref 47), some (.int v1), some (.int v2), some (.int v3), some (.int v4), some (.int v5), some (.int v6), none, none, none] [] u := by
  intro n
  induction n with
  | zero =>
    intro v5 v6 u
    rw [fX12_slips_103.eq_1]
    exact r_none
  | succ n ih =>
    intro v5 v6 u
    rw [fX12_slips_103.eq_2]
    refine r_iload dX12_slips_103 rfl ?_
    refine r_aload_n dX12_slips_105 rfl ?_
    refine r_get 47 3 flX12_24 rfl (v := .int (gI u 47 3)) rfl dX12_slips_106 ?_
    refine r_aload_n dX12_slips_109 rfl ?_
    refine r_get 47 4 flX12_27 rfl (v := .int (gI u 47 4)) rfl dX12_slips_110 ?_
    refine r_imul dX12_slips_113 ?_
    refine r_icmp_ge dX12_slips_114 (tgt := 216) rfl ?_ ?_
    · refine r_aload_n dX12_slips_216 rfl ?_
      refine r_get 47 41 flX12_101 rfl (v := .ref 72) rfl dX12_slips_217 ?_
      refine r_iload_n dX12_slips_220 rfl ?_
      refine r_zald 72 rfl dX12_slips_221 ?_
      refine r_if_eq dX12_slips_222 (tgt := 228) rfl ?_ ?_
      · refine r_iconst dX12_slips_228 (v := 0) rfl ?_
        refine r_istore dX12_slips_229 (Nat.le_of_ble_eq_true rfl) (ls2 := [some (.ref 47), some (.int v1), some (.int v2), some (.int v3), some (.int v4), some (.int v5), some (.int 0), none, none, none]) rfl ?_
        exact sX12_slips_231 v1 v2 v3 v4 k81 hk81 FU v5 0 u
      · refine r_iload dX12_slips_225 rfl ?_
        exact r_ireturn rfl dX12_slips_227
    · refine r_aload_n dX12_slips_117 rfl ?_
      refine r_get 47 42 flX12_104 rfl (v := .ref 73) rfl dX12_slips_118 ?_
      refine r_iload dX12_slips_121 rfl ?_
      refine r_zald 73 rfl dX12_slips_123 ?_
      refine r_istore dX12_slips_124 (Nat.le_of_ble_eq_true rfl) (ls2 := [some (.ref 47), some (.int v1), some (.int v2), some (.int v3), some (.int v4), some (.int v5), some (.int v6), some (.int (gA u 73 v6)), none, none]) rfl ?_
      refine r_iconst dX12_slips_126 (v := 0) rfl ?_
      refine r_istore dX12_slips_127 (Nat.le_of_ble_eq_true rfl) (ls2 := [some (.ref 47), some (.int v1), some (.int v2), some (.int v3), some (.int v4), some (.int v5), some (.int v6), some (.int (gA u 73 v6)), some (.int 0), none]) rfl ?_
      exact sX12_slips_129 v1 v2 v3 v4 k81 (fX12_slips_103 v1 v2 v3 v4 k81 n) hk81 ih FU v5 v6 (gA u 73 v6) 0 u
def fX12_slips_81 (v1 : Int32) (v2 : Int32) (v3 : Int32) (v4 : Int32) : Nat → Int32 → US → Option (Int32 × US)
  | 0, _, _ => none
  | n + 1, v5, u => (if (60 : Int32) < v5 then some ((-2), u) else oB (fX12_laysDark 56 v3 v4 u) fun r1 u1 => fX12_slips_103 v1 v2 v3 v4 (fX12_slips_81 v1 v2 v3 v4 n) FU v5 0 u1)
set_option maxRecDepth 20000 in
theorem sX12_slips_81 (v1 : Int32) (v2 : Int32) (v3 : Int32) (v4 : Int32) : ∀ (n : Nat) (v5 : Int32) (u : US), Sim tI mX12_slips 9 (fX12_slips_81 v1 v2 v3 v4 n v5 u) 81 [some (.ref 47), some (.int v1), some (.int v2), some (.int v3), some (.int v4), some (.int v5), none, none, none, none] [] u := by
  intro n
  induction n with
  | zero =>
    intro v5 u
    rw [fX12_slips_81.eq_1]
    exact r_none
  | succ n ih =>
    intro v5 u
    rw [fX12_slips_81.eq_2]
    refine r_iload dX12_slips_81 rfl ?_
    refine r_bipush dX12_slips_83 (v := 60) rfl ?_
    refine r_icmp_gt dX12_slips_85 (tgt := 282) rfl ?_ ?_
    · refine r_bipush dX12_slips_282 (v := -2) rfl ?_
      exact r_ireturn rfl dX12_slips_284
    · refine r_aload_n dX12_slips_88 rfl ?_
      refine r_aload_n dX12_slips_89 rfl ?_
      refine r_get 47 16 flX12_52 rfl (v := .ref 56) rfl dX12_slips_90 ?_
      refine r_iload_n dX12_slips_93 rfl ?_
      refine r_iload dX12_slips_94 rfl ?_
      refine c_VI (As := [.ref 56, .int v3, .int v4]) kvX12_424 rfl (by decide) (okX12_laysDark 56 v3 v4 u) rfl (Nat.le_of_ble_eq_true rfl) rfl dX12_slips_96 (fun r1 u1 => ?_)
      refine r_pop dX12_slips_99 rfl ?_
      refine r_iconst dX12_slips_100 (v := 0) rfl ?_
      refine r_istore dX12_slips_101 (Nat.le_of_ble_eq_true rfl) (ls2 := [some (.ref 47), some (.int v1), some (.int v2), some (.int v3), some (.int v4), some (.int v5), some (.int 0), none, none, none]) rfl ?_
      exact sX12_slips_103 v1 v2 v3 v4 (fX12_slips_81 v1 v2 v3 v4 n) ih FU v5 0 u1
def fX12_slips_40 (v1 : Int32) (v2 : Int32) (v3 : Int32) (v4 : Int32) : Nat → Int32 → US → Option (Int32 × US)
  | 0, _, _ => none
  | n + 1, v5, u => (if ((gI u 47 3) * (gI u 47 4)) ≤ v5 then fX12_slips_81 v1 v2 v3 v4 FU 0 u else (if v5 = v1 then gd (inb v5 36) (nx (sA u 73 v5 (vp_nar .boolean 1)) fun u2 => fX12_slips_40 v1 v2 v3 v4 n (v5 + 1) u2) else gd (inb v5 36) (nx (sA u 73 v5 (vp_nar .boolean 0)) fun u1 => fX12_slips_40 v1 v2 v3 v4 n (v5 + 1) u1)))
set_option maxRecDepth 20000 in
theorem sX12_slips_40 (v1 : Int32) (v2 : Int32) (v3 : Int32) (v4 : Int32) : ∀ (n : Nat) (v5 : Int32) (u : US), Sim tI mX12_slips 9 (fX12_slips_40 v1 v2 v3 v4 n v5 u) 40 [some (.ref 47), some (.int v1), some (.int v2), some (.int v3), some (.int v4), some (.int v5), none, none, none, none] [] u := by
  intro n
  induction n with
  | zero =>
    intro v5 u
    rw [fX12_slips_40.eq_1]
    exact r_none
  | succ n ih =>
    intro v5 u
    rw [fX12_slips_40.eq_2]
    refine r_iload dX12_slips_40 rfl ?_
    refine r_aload_n dX12_slips_42 rfl ?_
    refine r_get 47 3 flX12_24 rfl (v := .int (gI u 47 3)) rfl dX12_slips_43 ?_
    refine r_aload_n dX12_slips_46 rfl ?_
    refine r_get 47 4 flX12_27 rfl (v := .int (gI u 47 4)) rfl dX12_slips_47 ?_
    refine r_imul dX12_slips_50 ?_
    refine r_icmp_ge dX12_slips_51 (tgt := 78) rfl ?_ ?_
    · refine r_iconst dX12_slips_78 (v := 0) rfl ?_
      refine r_istore dX12_slips_79 (Nat.le_of_ble_eq_true rfl) (ls2 := [some (.ref 47), some (.int v1), some (.int v2), some (.int v3), some (.int v4), some (.int 0), none, none, none, none]) rfl ?_
      exact sX12_slips_81 v1 v2 v3 v4 FU 0 u
    · refine r_aload_n dX12_slips_54 rfl ?_
      refine r_get 47 42 flX12_104 rfl (v := .ref 73) rfl dX12_slips_55 ?_
      refine r_iload dX12_slips_58 rfl ?_
      refine r_iload dX12_slips_60 rfl ?_
      refine r_iload_n dX12_slips_62 rfl ?_
      refine r_icmp_ne dX12_slips_63 (tgt := 70) rfl ?_ ?_
      · refine r_iconst dX12_slips_70 (v := 0) rfl ?_
        refine r_zast 73 rfl dX12_slips_71 (r_nx (fun u1 => ?_))
        refine r_iinc dX12_slips_72 (Nat.le_of_ble_eq_true rfl) rfl (v := v5 + 1) rfl (ls2 := [some (.ref 47), some (.int v1), some (.int v2), some (.int v3), some (.int v4), some (.int (v5 + 1)), none, none, none, none]) rfl ?_
        refine r_goto dX12_slips_75 (tgt := 40) rfl ?_
        exact ih (v5 + 1) u1
      · refine r_iconst dX12_slips_66 (v := 1) rfl ?_
        refine r_goto dX12_slips_67 (tgt := 71) rfl ?_
        refine r_zast 73 rfl dX12_slips_71 (r_nx (fun u2 => ?_))
        refine r_iinc dX12_slips_72 (Nat.le_of_ble_eq_true rfl) rfl (v := v5 + 1) rfl (ls2 := [some (.ref 47), some (.int v1), some (.int v2), some (.int v3), some (.int v4), some (.int (v5 + 1)), none, none, none, none]) rfl ?_
        refine r_goto dX12_slips_75 (tgt := 40) rfl ?_
        exact ih (v5 + 1) u2
def fX12_slips (v1 : Int32) (v2 : Int32) (v3 : Int32) (v4 : Int32) (u : US) : Option (Int32 × US) :=
  nx (sI u 47 0 0) fun u1 => oB (fX12_isField v1 u1) fun r2 u2 => (if r2 = 0 then some ((-1), u2) else oB (fX12_isField v2 u2) fun r3 u3 => (if r3 = 0 then some ((-1), u3) else oB (fX12_isBeing v3 v4 u3) fun r4 u4 => (if r4 = 0 then some ((-1), u4) else oV (fX12_copies u4) fun u5 => fX12_slips_40 v1 v2 v3 v4 FU 0 u5)))
set_option maxRecDepth 20000 in
theorem sX12_slips (v1 : Int32) (v2 : Int32) (v3 : Int32) (v4 : Int32) (u : US) : Sim tI mX12_slips 9 (fX12_slips v1 v2 v3 v4 u) 0 [some (.ref 47), some (.int v1), some (.int v2), some (.int v3), some (.int v4), none, none, none, none, none] [] u := by
  unfold fX12_slips
  refine r_aload_n dX12_slips_0 rfl ?_
  refine r_iconst dX12_slips_1 (v := 0) rfl ?_
  refine r_put 47 0 fpX12_3 rfl rfl dX12_slips_2 (r_nx (fun u1 => ?_))
  refine r_aload_n dX12_slips_5 rfl ?_
  refine r_iload_n dX12_slips_6 rfl ?_
  refine c_VI (As := [.int v1]) kvX12_364 rfl (by decide) (okX12_isField v1 u1) rfl (Nat.le_of_ble_eq_true rfl) rfl dX12_slips_7 (fun r2 u2 => ?_)
  refine r_if_eq dX12_slips_10 (tgt := 31) rfl ?_ ?_
  · refine r_iconst dX12_slips_31 (v := -1) rfl ?_
    exact r_ireturn rfl dX12_slips_32
  · refine r_aload_n dX12_slips_13 rfl ?_
    refine r_iload_n dX12_slips_14 rfl ?_
    refine c_VI (As := [.int v2]) kvX12_364 rfl (by decide) (okX12_isField v2 u2) rfl (Nat.le_of_ble_eq_true rfl) rfl dX12_slips_15 (fun r3 u3 => ?_)
    refine r_if_eq dX12_slips_18 (tgt := 31) rfl ?_ ?_
    · refine r_iconst dX12_slips_31 (v := -1) rfl ?_
      exact r_ireturn rfl dX12_slips_32
    · refine r_aload_n dX12_slips_21 rfl ?_
      refine r_iload_n dX12_slips_22 rfl ?_
      refine r_iload dX12_slips_23 rfl ?_
      refine c_VI (As := [.int v3, .int v4]) kvX12_421 rfl (by decide) (okX12_isBeing v3 v4 u3) rfl (Nat.le_of_ble_eq_true rfl) rfl dX12_slips_25 (fun r4 u4 => ?_)
      refine r_if_ne dX12_slips_28 (tgt := 33) rfl ?_ ?_
      · refine r_aload_n dX12_slips_33 rfl ?_
        refine c_VV (As := []) kvX12_407 rfl (by decide) (okX12_copies u4) rfl (Nat.le_of_ble_eq_true rfl) rfl dX12_slips_34 (fun u5 => ?_)
        refine r_iconst dX12_slips_37 (v := 0) rfl ?_
        refine r_istore dX12_slips_38 (Nat.le_of_ble_eq_true rfl) (ls2 := [some (.ref 47), some (.int v1), some (.int v2), some (.int v3), some (.int v4), some (.int 0), none, none, none, none]) rfl ?_
        exact sX12_slips_40 v1 v2 v3 v4 FU 0 u5
      · refine r_iconst dX12_slips_31 (v := -1) rfl ?_
        exact r_ireturn rfl dX12_slips_32
theorem okX12_slips (v1 : Int32) (v2 : Int32) (v3 : Int32) (v4 : Int32) (u : US) : ∀ r, fX12_slips v1 v2 v3 v4 u = some r → MetC mX12_slips 9 [.ref 47, .int v1, .int v2, .int v3, .int v4] u (tI r) :=
  met_of (by decide +kernel) (Nat.le_of_ble_eq_true rfl) rfl (sX12_slips v1 v2 v3 v4 u)
def fX12_square_111 : Nat → Int32 → Int32 → Int32 → US → Option (Int32 × US)
  | 0, _, _, _, _ => none
  | n + 1, v1, v2, v3, u => (if (3 : Int32) ≤ v3 then some (v1 * v2, u) else gd (inb v3 3) (nx (sA u 82 v3 (vp_nar .boolean 0)) fun u1 => fX12_square_111 n v1 v2 (v3 + 1) u1))
set_option maxRecDepth 20000 in
theorem sX12_square_111 : ∀ (n : Nat) (v1 : Int32) (v2 : Int32) (v3 : Int32) (u : US), Sim tI mX12_square 6 (fX12_square_111 n v1 v2 v3 u) 111 [some (.ref 47), some (.int v1), some (.int v2), some (.int v3)] [] u := by
  intro n
  induction n with
  | zero =>
    intro v1 v2 v3 u
    rw [fX12_square_111.eq_1]
    exact r_none
  | succ n ih =>
    intro v1 v2 v3 u
    rw [fX12_square_111.eq_2]
    refine r_iload_n dX12_square_111 rfl ?_
    refine r_iconst dX12_square_112 (v := 3) rfl ?_
    refine r_icmp_ge dX12_square_113 (tgt := 129) rfl ?_ ?_
    · refine r_iload_n dX12_square_129 rfl ?_
      refine r_iload_n dX12_square_130 rfl ?_
      refine r_imul dX12_square_131 ?_
      exact r_ireturn rfl dX12_square_132
    · refine r_aload_n dX12_square_116 rfl ?_
      refine r_get 47 54 flX12_131 rfl (v := .ref 82) rfl dX12_square_117 ?_
      refine r_iload_n dX12_square_120 rfl ?_
      refine r_iconst dX12_square_121 (v := 0) rfl ?_
      refine r_zast 82 rfl dX12_square_122 (r_nx (fun u1 => ?_))
      refine r_iinc dX12_square_123 (Nat.le_of_ble_eq_true rfl) rfl (v := v3 + 1) rfl (ls2 := [some (.ref 47), some (.int v1), some (.int v2), some (.int (v3 + 1))]) rfl ?_
      refine r_goto dX12_square_126 (tgt := 111) rfl ?_
      exact ih v1 v2 (v3 + 1) u1
def fX12_square_35 (v1 : Int32) (s0 : Int32) (u : US) : Option (Int32 × US) :=
  (if s0 < 0 then some ((-1) - (gI u 47 19), u) else (if (gI u 47 20) ≤ (gI u 47 19) then nx (sI u 47 3 v1) fun u1 => nx (sI u1 47 4 s0) fun u2 => nx (sI u2 47 5 0) fun u3 => nx (sI u3 47 6 0) fun u4 => nx (sI u4 47 7 0) fun u5 => nx (sI u5 47 43 0) fun u6 => nx (sI u6 47 30 0) fun u7 => gd (inb 24 26) (nx (sA u7 55 24 0) fun u8 => gd (inb 25 26) (nx (sA u8 55 25 0) fun u9 => fX12_square_111 FU v1 s0 0 u9)) else some ((-1) - (gI u 47 19), u)))
set_option maxRecDepth 20000 in
theorem sX12_square_35 (v1 : Int32) (s0 : Int32) (u : US) : Sim tI mX12_square 6 (fX12_square_35 v1 s0 u) 35 [some (.ref 47), some (.int v1), none, none] [.int s0] u := by
  unfold fX12_square_35
  refine r_istore_n dX12_square_35 (Nat.le_of_ble_eq_true rfl) (ls2 := [some (.ref 47), some (.int v1), some (.int s0), none]) rfl ?_
  refine r_iload_n dX12_square_36 rfl ?_
  refine r_if_lt dX12_square_37 (tgt := 51) rfl ?_ ?_
  · refine r_iconst dX12_square_51 (v := -1) rfl ?_
    refine r_aload_n dX12_square_52 rfl ?_
    refine r_get 47 19 flX12_162 rfl (v := .int (gI u 47 19)) rfl dX12_square_53 ?_
    refine r_isub dX12_square_56 ?_
    exact r_ireturn rfl dX12_square_57
  · refine r_aload_n dX12_square_40 rfl ?_
    refine r_get 47 19 flX12_162 rfl (v := .int (gI u 47 19)) rfl dX12_square_41 ?_
    refine r_aload_n dX12_square_44 rfl ?_
    refine r_get 47 20 flX12_172 rfl (v := .int (gI u 47 20)) rfl dX12_square_45 ?_
    refine r_icmp_ge dX12_square_48 (tgt := 58) rfl ?_ ?_
    · refine r_aload_n dX12_square_58 rfl ?_
      refine r_iload_n dX12_square_59 rfl ?_
      refine r_put 47 3 fpX12_24 rfl rfl dX12_square_60 (r_nx (fun u1 => ?_))
      refine r_aload_n dX12_square_63 rfl ?_
      refine r_iload_n dX12_square_64 rfl ?_
      refine r_put 47 4 fpX12_27 rfl rfl dX12_square_65 (r_nx (fun u2 => ?_))
      refine r_aload_n dX12_square_68 rfl ?_
      refine r_iconst dX12_square_69 (v := 0) rfl ?_
      refine r_put 47 5 fpX12_140 rfl rfl dX12_square_70 (r_nx (fun u3 => ?_))
      refine r_aload_n dX12_square_73 rfl ?_
      refine r_iconst dX12_square_74 (v := 0) rfl ?_
      refine r_put 47 6 fpX12_147 rfl rfl dX12_square_75 (r_nx (fun u4 => ?_))
      refine r_aload_n dX12_square_78 rfl ?_
      refine r_iconst dX12_square_79 (v := 0) rfl ?_
      refine r_put 47 7 fpX12_150 rfl rfl dX12_square_80 (r_nx (fun u5 => ?_))
      refine r_aload_n dX12_square_83 rfl ?_
      refine r_iconst dX12_square_84 (v := 0) rfl ?_
      refine r_put 47 43 fpX12_212 rfl rfl dX12_square_85 (r_nx (fun u6 => ?_))
      refine r_aload_n dX12_square_88 rfl ?_
      refine r_iconst dX12_square_89 (v := 0) rfl ?_
      refine r_put 47 30 fpX12_215 rfl rfl dX12_square_90 (r_nx (fun u7 => ?_))
      refine r_aload_n dX12_square_93 rfl ?_
      refine r_get 47 15 flX12_49 rfl (v := .ref 55) rfl dX12_square_94 ?_
      refine r_bipush dX12_square_97 (v := 24) rfl ?_
      refine r_iconst dX12_square_99 (v := 0) rfl ?_
      refine r_iast 55 rfl dX12_square_100 (r_nx (fun u8 => ?_))
      refine r_aload_n dX12_square_101 rfl ?_
      refine r_get 47 15 flX12_49 rfl (v := .ref 55) rfl dX12_square_102 ?_
      refine r_bipush dX12_square_105 (v := 25) rfl ?_
      refine r_iconst dX12_square_107 (v := 0) rfl ?_
      refine r_iast 55 rfl dX12_square_108 (r_nx (fun u9 => ?_))
      refine r_iconst dX12_square_109 (v := 0) rfl ?_
      refine r_istore_n dX12_square_110 (Nat.le_of_ble_eq_true rfl) (ls2 := [some (.ref 47), some (.int v1), some (.int s0), some (.int 0)]) rfl ?_
      exact sX12_square_111 FU v1 s0 0 u9
    · refine r_iconst dX12_square_51 (v := -1) rfl ?_
      refine r_aload_n dX12_square_52 rfl ?_
      refine r_get 47 19 flX12_162 rfl (v := .int (gI u 47 19)) rfl dX12_square_53 ?_
      refine r_isub dX12_square_56 ?_
      exact r_ireturn rfl dX12_square_57
def fX12_square (u : US) : Option (Int32 × US) :=
  nx (sI u 47 0 0) fun u1 => oB (fX12_begins 80 u1) fun r2 u2 => oB (fX12_digitIn 1 6 u2) fun r3 u3 => (if 0 ≤ r3 then oB (fX12_digitIn 1 6 u3) fun r4 u4 => fX12_square_35 r3 r4 u4 else fX12_square_35 r3 (-1) u3)
set_option maxRecDepth 20000 in
theorem sX12_square (u : US) : Sim tI mX12_square 6 (fX12_square u) 0 [some (.ref 47), none, none, none] [] u := by
  unfold fX12_square
  refine r_aload_n dX12_square_0 rfl ?_
  refine r_iconst dX12_square_1 (v := 0) rfl ?_
  refine r_put 47 0 fpX12_3 rfl rfl dX12_square_2 (r_nx (fun u1 => ?_))
  refine r_aload_n dX12_square_5 rfl ?_
  refine r_bipush dX12_square_6 (v := 80) rfl ?_
  refine c_VI (As := [.int 80]) kvX12_206 rfl (by decide) (okX12_begins 80 u1) rfl (Nat.le_of_ble_eq_true rfl) rfl dX12_square_8 (fun r2 u2 => ?_)
  refine r_pop dX12_square_11 rfl ?_
  refine r_aload_n dX12_square_12 rfl ?_
  refine r_iconst dX12_square_13 (v := 1) rfl ?_
  refine r_bipush dX12_square_14 (v := 6) rfl ?_
  refine c_VI (As := [.int 1, .int 6]) kvX12_209 rfl (by decide) (okX12_digitIn 1 6 u2) rfl (Nat.le_of_ble_eq_true rfl) rfl dX12_square_16 (fun r3 u3 => ?_)
  refine r_istore_n dX12_square_19 (Nat.le_of_ble_eq_true rfl) (ls2 := [some (.ref 47), some (.int r3), none, none]) rfl ?_
  refine r_iload_n dX12_square_20 rfl ?_
  refine r_if_ge dX12_square_21 (tgt := 28) rfl ?_ ?_
  · refine r_aload_n dX12_square_28 rfl ?_
    refine r_iconst dX12_square_29 (v := 1) rfl ?_
    refine r_bipush dX12_square_30 (v := 6) rfl ?_
    refine c_VI (As := [.int 1, .int 6]) kvX12_209 rfl (by decide) (okX12_digitIn 1 6 u3) rfl (Nat.le_of_ble_eq_true rfl) rfl dX12_square_32 (fun r4 u4 => ?_)
    exact sX12_square_35 r3 r4 u4
  · refine r_iconst dX12_square_24 (v := -1) rfl ?_
    refine r_goto dX12_square_25 (tgt := 35) rfl ?_
    exact sX12_square_35 r3 (-1) u3
theorem okX12_square (u : US) : ∀ r, fX12_square u = some r → MetC mX12_square 6 [.ref 47] u (tI r) :=
  met_of (by decide +kernel) (Nat.le_of_ble_eq_true rfl) rfl (sX12_square u)
def fX12_steals_262 (v1 : Int32) (v2 : Int32) (v3 : Int32) (v4 : Int32) (k250 : Int32 → US → Option (Int32 × US)) : Nat → Int32 → Int32 → Int32 → US → Option (Int32 × US)
  | 0, _, _, _, _ => none
  | n + 1, v5, v6, v7, u => (if ((gI u 47 3) * (gI u 47 4)) ≤ v7 then oV (fX12_enters ((v6 : Int32).toInt64) u) fun u1 => k250 v6 u1 else (if 0 ≤ v6 then fX12_steals_262 v1 v2 v3 v4 k250 n v5 v6 (v7 + 1) u else oB (fX12_far v5 v7 u) fun r2 u2 => (if r2 = 1 then gd (inb v7 36) (gd (inb v5 36) ((if (gA u2 71 v7) = ((gA u2 71 v5) - 1) then fX12_steals_262 v1 v2 v3 v4 k250 n v5 v7 (v7 + 1) u2 else fX12_steals_262 v1 v2 v3 v4 k250 n v5 v6 (v7 + 1) u2))) else fX12_steals_262 v1 v2 v3 v4 k250 n v5 v6 (v7 + 1) u2)))
set_option maxRecDepth 20000 in
theorem sX12_steals_262 (v1 : Int32) (v2 : Int32) (v3 : Int32) (v4 : Int32) (k250 : Int32 → US → Option (Int32 × US)) (hk250 : ∀ (v5 : Int32) (u : US), Sim tI mX12_steals 9 (k250 v5 u) 250 [some (.ref 47), some (.int v1), some (.int v2), some (.int v3), some (.int v4), some (.int v5), none, none, none] [] u) : ∀ (n : Nat) (v5 : Int32) (v6 : Int32) (v7 : Int32) (u : US), Sim tI mX12_steals 9 (fX12_steals_262 v1 v2 v3 v4 k250 n v5 v6 v7 u) 262 [some (.ref 47), some (.int v1), some (.int v2), some (.int v3), some (.int v4), some (.int v5), some (.int v6), some (.int v7), none] [] u := by
  intro n
  induction n with
  | zero =>
    intro v5 v6 v7 u
    rw [fX12_steals_262.eq_1]
    exact r_none
  | succ n ih =>
    intro v5 v6 v7 u
    rw [fX12_steals_262.eq_2]
    refine r_iload dX12_steals_262 rfl ?_
    refine r_aload_n dX12_steals_264 rfl ?_
    refine r_get 47 3 flX12_24 rfl (v := .int (gI u 47 3)) rfl dX12_steals_265 ?_
    refine r_aload_n dX12_steals_268 rfl ?_
    refine r_get 47 4 flX12_27 rfl (v := .int (gI u 47 4)) rfl dX12_steals_269 ?_
    refine r_imul dX12_steals_272 ?_
    refine r_icmp_ge dX12_steals_273 (tgt := 327) rfl ?_ ?_
    · refine r_iload dX12_steals_327 rfl ?_
      refine r_istore dX12_steals_329 (Nat.le_of_ble_eq_true rfl) (ls2 := [some (.ref 47), some (.int v1), some (.int v2), some (.int v3), some (.int v4), some (.int v6), some (.int v6), some (.int v7), none]) rfl ?_
      refine r_aload_n dX12_steals_331 rfl ?_
      refine r_iload dX12_steals_332 rfl ?_
      refine r_i2l dX12_steals_334 ?_
      refine c_VV (As := [.long ((v6 : Int32).toInt64)]) kvX12_387 rfl (by decide) (okX12_enters ((v6 : Int32).toInt64) u) rfl (Nat.le_of_ble_eq_true rfl) rfl dX12_steals_335 (fun u1 => ?_)
      refine r_goto dX12_steals_338 (tgt := 250) rfl ?_
      refine r_mk [true, true, true, true, true, true, false, false, false] (ls2 := [some (.ref 47), some (.int v1), some (.int v2), some (.int v3), some (.int v4), some (.int v6), none, none, none]) rfl ?_
      exact hk250 v6 u1
    · refine r_iload dX12_steals_276 rfl ?_
      refine r_if_ge dX12_steals_278 (tgt := 317) rfl ?_ ?_
      · refine r_iload dX12_steals_317 rfl ?_
        refine r_istore dX12_steals_319 (Nat.le_of_ble_eq_true rfl) (ls2 := [some (.ref 47), some (.int v1), some (.int v2), some (.int v3), some (.int v4), some (.int v5), some (.int v6), some (.int v7), none]) rfl ?_
        refine r_iinc dX12_steals_321 (Nat.le_of_ble_eq_true rfl) rfl (v := v7 + 1) rfl (ls2 := [some (.ref 47), some (.int v1), some (.int v2), some (.int v3), some (.int v4), some (.int v5), some (.int v6), some (.int (v7 + 1)), none]) rfl ?_
        refine r_goto dX12_steals_324 (tgt := 262) rfl ?_
        exact ih v5 v6 (v7 + 1) u
      · refine r_aload_n dX12_steals_281 rfl ?_
        refine r_iload dX12_steals_282 rfl ?_
        refine r_iload dX12_steals_284 rfl ?_
        refine c_VI (As := [.int v5, .int v7]) kvX12_312 rfl (by decide) (okX12_far v5 v7 u) rfl (Nat.le_of_ble_eq_true rfl) rfl dX12_steals_286 (fun r2 u2 => ?_)
        refine r_iconst dX12_steals_289 (v := 1) rfl ?_
        refine r_icmp_ne dX12_steals_290 (tgt := 317) rfl ?_ ?_
        · refine r_iload dX12_steals_317 rfl ?_
          refine r_istore dX12_steals_319 (Nat.le_of_ble_eq_true rfl) (ls2 := [some (.ref 47), some (.int v1), some (.int v2), some (.int v3), some (.int v4), some (.int v5), some (.int v6), some (.int v7), none]) rfl ?_
          refine r_iinc dX12_steals_321 (Nat.le_of_ble_eq_true rfl) rfl (v := v7 + 1) rfl (ls2 := [some (.ref 47), some (.int v1), some (.int v2), some (.int v3), some (.int v4), some (.int v5), some (.int v6), some (.int (v7 + 1)), none]) rfl ?_
          refine r_goto dX12_steals_324 (tgt := 262) rfl ?_
          exact ih v5 v6 (v7 + 1) u2
        · refine r_aload_n dX12_steals_293 rfl ?_
          refine r_get 47 40 flX12_98 rfl (v := .ref 71) rfl dX12_steals_294 ?_
          refine r_iload dX12_steals_297 rfl ?_
          refine r_iald 71 rfl dX12_steals_299 ?_
          refine r_aload_n dX12_steals_300 rfl ?_
          refine r_get 47 40 flX12_98 rfl (v := .ref 71) rfl dX12_steals_301 ?_
          refine r_iload dX12_steals_304 rfl ?_
          refine r_iald 71 rfl dX12_steals_306 ?_
          refine r_iconst dX12_steals_307 (v := 1) rfl ?_
          refine r_isub dX12_steals_308 ?_
          refine r_icmp_ne dX12_steals_309 (tgt := 317) rfl ?_ ?_
          · refine r_iload dX12_steals_317 rfl ?_
            refine r_istore dX12_steals_319 (Nat.le_of_ble_eq_true rfl) (ls2 := [some (.ref 47), some (.int v1), some (.int v2), some (.int v3), some (.int v4), some (.int v5), some (.int v6), some (.int v7), none]) rfl ?_
            refine r_iinc dX12_steals_321 (Nat.le_of_ble_eq_true rfl) rfl (v := v7 + 1) rfl (ls2 := [some (.ref 47), some (.int v1), some (.int v2), some (.int v3), some (.int v4), some (.int v5), some (.int v6), some (.int (v7 + 1)), none]) rfl ?_
            refine r_goto dX12_steals_324 (tgt := 262) rfl ?_
            exact ih v5 v6 (v7 + 1) u2
          · refine r_iload dX12_steals_312 rfl ?_
            refine r_goto dX12_steals_314 (tgt := 319) rfl ?_
            refine r_istore dX12_steals_319 (Nat.le_of_ble_eq_true rfl) (ls2 := [some (.ref 47), some (.int v1), some (.int v2), some (.int v3), some (.int v4), some (.int v5), some (.int v7), some (.int v7), none]) rfl ?_
            refine r_iinc dX12_steals_321 (Nat.le_of_ble_eq_true rfl) rfl (v := v7 + 1) rfl (ls2 := [some (.ref 47), some (.int v1), some (.int v2), some (.int v3), some (.int v4), some (.int v5), some (.int v7), some (.int (v7 + 1)), none]) rfl ?_
            refine r_goto dX12_steals_324 (tgt := 262) rfl ?_
            exact ih v5 v7 (v7 + 1) u2
def fX12_steals_250 (v1 : Int32) (v2 : Int32) (v3 : Int32) (v4 : Int32) : Nat → Int32 → US → Option (Int32 × US)
  | 0, _, _ => none
  | n + 1, v5, u => (if v5 = v2 then gd (inb v1 36) (some (gA u 71 v1, u)) else fX12_steals_262 v1 v2 v3 v4 (fX12_steals_250 v1 v2 v3 v4 n) FU v5 (-1) 0 u)
set_option maxRecDepth 20000 in
theorem sX12_steals_250 (v1 : Int32) (v2 : Int32) (v3 : Int32) (v4 : Int32) : ∀ (n : Nat) (v5 : Int32) (u : US), Sim tI mX12_steals 9 (fX12_steals_250 v1 v2 v3 v4 n v5 u) 250 [some (.ref 47), some (.int v1), some (.int v2), some (.int v3), some (.int v4), some (.int v5), none, none, none] [] u := by
  intro n
  induction n with
  | zero =>
    intro v5 u
    rw [fX12_steals_250.eq_1]
    exact r_none
  | succ n ih =>
    intro v5 u
    rw [fX12_steals_250.eq_2]
    refine r_iload dX12_steals_250 rfl ?_
    refine r_iload_n dX12_steals_252 rfl ?_
    refine r_icmp_eq dX12_steals_253 (tgt := 341) rfl ?_ ?_
    · refine r_aload_n dX12_steals_341 rfl ?_
      refine r_get 47 40 flX12_98 rfl (v := .ref 71) rfl dX12_steals_342 ?_
      refine r_iload_n dX12_steals_345 rfl ?_
      refine r_iald 71 rfl dX12_steals_346 ?_
      exact r_ireturn rfl dX12_steals_347
    · refine r_iconst dX12_steals_256 (v := -1) rfl ?_
      refine r_istore dX12_steals_257 (Nat.le_of_ble_eq_true rfl) (ls2 := [some (.ref 47), some (.int v1), some (.int v2), some (.int v3), some (.int v4), some (.int v5), some (.int (-1)), none, none]) rfl ?_
      refine r_iconst dX12_steals_259 (v := 0) rfl ?_
      refine r_istore dX12_steals_260 (Nat.le_of_ble_eq_true rfl) (ls2 := [some (.ref 47), some (.int v1), some (.int v2), some (.int v3), some (.int v4), some (.int v5), some (.int (-1)), some (.int 0), none]) rfl ?_
      exact sX12_steals_262 v1 v2 v3 v4 (fX12_steals_250 v1 v2 v3 v4 n) ih FU v5 (-1) 0 u
def fX12_steals_194 (v1 : Int32) (v2 : Int32) (v3 : Int32) (v4 : Int32) (k101 : Int32 → US → Option (Int32 × US)) (k118 : Int32 → Int32 → US → Option (Int32 × US)) (k135 : Int32 → Int32 → Int32 → US → Option (Int32 × US)) (v5 : Int32) (v6 : Int32) (v7 : Int32) (s1 : Int32) (u : US) : Option (Int32 × US) :=
  gd (inb v6 36) (gd (inb s1 36) (nx (sA u 71 s1 (gA u 71 v6)) fun u1 => k135 v5 v6 (v7 + 1) u1))
set_option maxRecDepth 20000 in
theorem sX12_steals_194 (v1 : Int32) (v2 : Int32) (v3 : Int32) (v4 : Int32) (k101 : Int32 → US → Option (Int32 × US)) (k118 : Int32 → Int32 → US → Option (Int32 × US)) (k135 : Int32 → Int32 → Int32 → US → Option (Int32 × US)) (hk101 : ∀ (v5 : Int32) (u : US), Sim tI mX12_steals 9 (k101 v5 u) 101 [some (.ref 47), some (.int v1), some (.int v2), some (.int v3), some (.int v4), some (.int v5), none, none, none] [] u) (hk118 : ∀ (v5 : Int32) (v6 : Int32) (u : US), Sim tI mX12_steals 9 (k118 v5 v6 u) 118 [some (.ref 47), some (.int v1), some (.int v2), some (.int v3), some (.int v4), some (.int v5), some (.int v6), none, none] [] u) (hk135 : ∀ (v5 : Int32) (v6 : Int32) (v7 : Int32) (u : US), Sim tI mX12_steals 9 (k135 v5 v6 v7 u) 135 [some (.ref 47), some (.int v1), some (.int v2), some (.int v3), some (.int v4), some (.int v5), some (.int v6), some (.int v7), none] [] u) (v5 : Int32) (v6 : Int32) (v7 : Int32) (s1 : Int32) (u : US) : Sim tI mX12_steals 9 (fX12_steals_194 v1 v2 v3 v4 k101 k118 k135 v5 v6 v7 s1 u) 194 [some (.ref 47), some (.int v1), some (.int v2), some (.int v3), some (.int v4), some (.int v5), some (.int v6), some (.int v7), none] [.int s1, .ref 71] u := by
  unfold fX12_steals_194
  refine r_aload_n dX12_steals_194 rfl ?_
  refine r_get 47 40 flX12_98 rfl (v := .ref 71) rfl dX12_steals_195 ?_
  refine r_iload dX12_steals_198 rfl ?_
  refine r_iald 71 rfl dX12_steals_200 ?_
  refine r_iast 71 rfl dX12_steals_201 (r_nx (fun u1 => ?_))
  refine r_iinc dX12_steals_202 (Nat.le_of_ble_eq_true rfl) rfl (v := v7 + 1) rfl (ls2 := [some (.ref 47), some (.int v1), some (.int v2), some (.int v3), some (.int v4), some (.int v5), some (.int v6), some (.int (v7 + 1)), none]) rfl ?_
  refine r_goto dX12_steals_205 (tgt := 135) rfl ?_
  exact hk135 v5 v6 (v7 + 1) u1
def fX12_steals_135 (v1 : Int32) (v2 : Int32) (v3 : Int32) (v4 : Int32) (k101 : Int32 → US → Option (Int32 × US)) (k118 : Int32 → Int32 → US → Option (Int32 × US)) : Nat → Int32 → Int32 → Int32 → US → Option (Int32 × US)
  | 0, _, _, _, _ => none
  | n + 1, v5, v6, v7, u => (if (4 : Int32) ≤ v7 then k118 v5 (v6 + 1) u else oB (fX12_beside v6 v7 u) fun r1 u1 => (if r1 < 0 then fX12_steals_194 v1 v2 v3 v4 k101 k118 (fX12_steals_135 v1 v2 v3 v4 k101 k118 n) v5 v6 v7 v6 u1 else gd (inb v6 36) ((if (gA u1 70 v6) = 0 then fX12_steals_194 v1 v2 v3 v4 k101 k118 (fX12_steals_135 v1 v2 v3 v4 k101 k118 n) v5 v6 v7 v6 u1 else gd (inb v6 36) (gd (inb r1 36) (gd (inb v6 36) (nx (sA u1 71 v6 (if ((gA u1 71 r1) + 1) < (gA u1 71 v6) then (gA u1 71 r1) + 1 else gA u1 71 v6)) fun u2 => fX12_steals_135 v1 v2 v3 v4 k101 k118 n v5 v6 (v7 + 1) u2)))))))
set_option maxRecDepth 20000 in
theorem sX12_steals_135 (v1 : Int32) (v2 : Int32) (v3 : Int32) (v4 : Int32) (k101 : Int32 → US → Option (Int32 × US)) (k118 : Int32 → Int32 → US → Option (Int32 × US)) (hk101 : ∀ (v5 : Int32) (u : US), Sim tI mX12_steals 9 (k101 v5 u) 101 [some (.ref 47), some (.int v1), some (.int v2), some (.int v3), some (.int v4), some (.int v5), none, none, none] [] u) (hk118 : ∀ (v5 : Int32) (v6 : Int32) (u : US), Sim tI mX12_steals 9 (k118 v5 v6 u) 118 [some (.ref 47), some (.int v1), some (.int v2), some (.int v3), some (.int v4), some (.int v5), some (.int v6), none, none] [] u) : ∀ (n : Nat) (v5 : Int32) (v6 : Int32) (v7 : Int32) (u : US), Sim tI mX12_steals 9 (fX12_steals_135 v1 v2 v3 v4 k101 k118 n v5 v6 v7 u) 135 [some (.ref 47), some (.int v1), some (.int v2), some (.int v3), some (.int v4), some (.int v5), some (.int v6), some (.int v7), none] [] u := by
  intro n
  induction n with
  | zero =>
    intro v5 v6 v7 u
    rw [fX12_steals_135.eq_1]
    exact r_none
  | succ n ih =>
    intro v5 v6 v7 u
    rw [fX12_steals_135.eq_2]
    refine r_iload dX12_steals_135 rfl ?_
    refine r_iconst dX12_steals_137 (v := 4) rfl ?_
    refine r_icmp_ge dX12_steals_138 (tgt := 208) rfl ?_ ?_
    · refine r_iinc dX12_steals_208 (Nat.le_of_ble_eq_true rfl) rfl (v := v6 + 1) rfl (ls2 := [some (.ref 47), some (.int v1), some (.int v2), some (.int v3), some (.int v4), some (.int v5), some (.int (v6 + 1)), some (.int v7), none]) rfl ?_
      refine r_goto dX12_steals_211 (tgt := 118) rfl ?_
      refine r_mk [true, true, true, true, true, true, true, false, false] (ls2 := [some (.ref 47), some (.int v1), some (.int v2), some (.int v3), some (.int v4), some (.int v5), some (.int (v6 + 1)), none, none]) rfl ?_
      exact hk118 v5 (v6 + 1) u
    · refine r_aload_n dX12_steals_141 rfl ?_
      refine r_iload dX12_steals_142 rfl ?_
      refine r_iload dX12_steals_144 rfl ?_
      refine c_VI (As := [.int v6, .int v7]) kvX12_357 rfl (by decide) (okX12_beside v6 v7 u) rfl (Nat.le_of_ble_eq_true rfl) rfl dX12_steals_146 (fun r1 u1 => ?_)
      refine r_istore dX12_steals_149 (Nat.le_of_ble_eq_true rfl) (ls2 := [some (.ref 47), some (.int v1), some (.int v2), some (.int v3), some (.int v4), some (.int v5), some (.int v6), some (.int v7), some (.int r1)]) rfl ?_
      refine r_aload_n dX12_steals_151 rfl ?_
      refine r_get 47 40 flX12_98 rfl (v := .ref 71) rfl dX12_steals_152 ?_
      refine r_iload dX12_steals_155 rfl ?_
      refine r_iload dX12_steals_157 rfl ?_
      refine r_if_lt dX12_steals_159 (tgt := 194) rfl ?_ ?_
      · refine r_mk [true, true, true, true, true, true, true, true, false] (ls2 := [some (.ref 47), some (.int v1), some (.int v2), some (.int v3), some (.int v4), some (.int v5), some (.int v6), some (.int v7), none]) rfl ?_
        exact sX12_steals_194 v1 v2 v3 v4 k101 k118 (fX12_steals_135 v1 v2 v3 v4 k101 k118 n) hk101 hk118 ih v5 v6 v7 v6 u1
      · refine r_aload_n dX12_steals_162 rfl ?_
        refine r_get 47 39 flX12_94 rfl (v := .ref 70) rfl dX12_steals_163 ?_
        refine r_iload dX12_steals_166 rfl ?_
        refine r_zald 70 rfl dX12_steals_168 ?_
        refine r_if_eq dX12_steals_169 (tgt := 194) rfl ?_ ?_
        · refine r_mk [true, true, true, true, true, true, true, true, false] (ls2 := [some (.ref 47), some (.int v1), some (.int v2), some (.int v3), some (.int v4), some (.int v5), some (.int v6), some (.int v7), none]) rfl ?_
          exact sX12_steals_194 v1 v2 v3 v4 k101 k118 (fX12_steals_135 v1 v2 v3 v4 k101 k118 n) hk101 hk118 ih v5 v6 v7 v6 u1
        · refine r_aload_n dX12_steals_172 rfl ?_
          refine r_get 47 40 flX12_98 rfl (v := .ref 71) rfl dX12_steals_173 ?_
          refine r_iload dX12_steals_176 rfl ?_
          refine r_iald 71 rfl dX12_steals_178 ?_
          refine r_aload_n dX12_steals_179 rfl ?_
          refine r_get 47 40 flX12_98 rfl (v := .ref 71) rfl dX12_steals_180 ?_
          refine r_iload dX12_steals_183 rfl ?_
          refine r_iald 71 rfl dX12_steals_185 ?_
          refine r_iconst dX12_steals_186 (v := 1) rfl ?_
          refine r_iadd dX12_steals_187 ?_
          refine r_min kmX12_168 ktMath_min knMath kcMath_min (by decide) (Nat.le_of_ble_eq_true rfl) dX12_steals_188 ?_
          refine r_goto dX12_steals_191 (tgt := 201) rfl ?_
          refine r_iast 71 rfl dX12_steals_201 (r_nx (fun u2 => ?_))
          refine r_iinc dX12_steals_202 (Nat.le_of_ble_eq_true rfl) rfl (v := v7 + 1) rfl (ls2 := [some (.ref 47), some (.int v1), some (.int v2), some (.int v3), some (.int v4), some (.int v5), some (.int v6), some (.int (v7 + 1)), some (.int r1)]) rfl ?_
          refine r_goto dX12_steals_205 (tgt := 135) rfl ?_
          refine r_mk [true, true, true, true, true, true, true, true, false] (ls2 := [some (.ref 47), some (.int v1), some (.int v2), some (.int v3), some (.int v4), some (.int v5), some (.int v6), some (.int (v7 + 1)), none]) rfl ?_
          exact ih v5 v6 (v7 + 1) u2
def fX12_steals_118 (v1 : Int32) (v2 : Int32) (v3 : Int32) (v4 : Int32) (k101 : Int32 → US → Option (Int32 × US)) : Nat → Int32 → Int32 → US → Option (Int32 × US)
  | 0, _, _, _ => none
  | n + 1, v5, v6, u => (if ((gI u 47 3) * (gI u 47 4)) ≤ v6 then k101 (v5 + 1) u else fX12_steals_135 v1 v2 v3 v4 k101 (fX12_steals_118 v1 v2 v3 v4 k101 n) FU v5 v6 0 u)
set_option maxRecDepth 20000 in
theorem sX12_steals_118 (v1 : Int32) (v2 : Int32) (v3 : Int32) (v4 : Int32) (k101 : Int32 → US → Option (Int32 × US)) (hk101 : ∀ (v5 : Int32) (u : US), Sim tI mX12_steals 9 (k101 v5 u) 101 [some (.ref 47), some (.int v1), some (.int v2), some (.int v3), some (.int v4), some (.int v5), none, none, none] [] u) : ∀ (n : Nat) (v5 : Int32) (v6 : Int32) (u : US), Sim tI mX12_steals 9 (fX12_steals_118 v1 v2 v3 v4 k101 n v5 v6 u) 118 [some (.ref 47), some (.int v1), some (.int v2), some (.int v3), some (.int v4), some (.int v5), some (.int v6), none, none] [] u := by
  intro n
  induction n with
  | zero =>
    intro v5 v6 u
    rw [fX12_steals_118.eq_1]
    exact r_none
  | succ n ih =>
    intro v5 v6 u
    rw [fX12_steals_118.eq_2]
    refine r_iload dX12_steals_118 rfl ?_
    refine r_aload_n dX12_steals_120 rfl ?_
    refine r_get 47 3 flX12_24 rfl (v := .int (gI u 47 3)) rfl dX12_steals_121 ?_
    refine r_aload_n dX12_steals_124 rfl ?_
    refine r_get 47 4 flX12_27 rfl (v := .int (gI u 47 4)) rfl dX12_steals_125 ?_
    refine r_imul dX12_steals_128 ?_
    refine r_icmp_ge dX12_steals_129 (tgt := 214) rfl ?_ ?_
    · refine r_iinc dX12_steals_214 (Nat.le_of_ble_eq_true rfl) rfl (v := v5 + 1) rfl (ls2 := [some (.ref 47), some (.int v1), some (.int v2), some (.int v3), some (.int v4), some (.int (v5 + 1)), some (.int v6), none, none]) rfl ?_
      refine r_goto dX12_steals_217 (tgt := 101) rfl ?_
      refine r_mk [true, true, true, true, true, true, false, false, false] (ls2 := [some (.ref 47), some (.int v1), some (.int v2), some (.int v3), some (.int v4), some (.int (v5 + 1)), none, none, none]) rfl ?_
      exact hk101 (v5 + 1) u
    · refine r_iconst dX12_steals_132 (v := 0) rfl ?_
      refine r_istore dX12_steals_133 (Nat.le_of_ble_eq_true rfl) (ls2 := [some (.ref 47), some (.int v1), some (.int v2), some (.int v3), some (.int v4), some (.int v5), some (.int v6), some (.int 0), none]) rfl ?_
      exact sX12_steals_135 v1 v2 v3 v4 k101 (fX12_steals_118 v1 v2 v3 v4 k101 n) hk101 ih FU v5 v6 0 u
def fX12_steals_101 (v1 : Int32) (v2 : Int32) (v3 : Int32) (v4 : Int32) : Nat → Int32 → US → Option (Int32 × US)
  | 0, _, _ => none
  | n + 1, v5, u => (if ((gI u 47 3) * (gI u 47 4)) ≤ v5 then gd (inb v1 36) ((if (gA u 71 v1) < 1000000 then nx (sI u 47 1 0) fun u1 => oV (fX12_enters ((v1 : Int32).toInt64) u1) fun u2 => fX12_steals_250 v1 v2 v3 v4 FU v1 u2 else some ((-2), u))) else fX12_steals_118 v1 v2 v3 v4 (fX12_steals_101 v1 v2 v3 v4 n) FU v5 0 u)
set_option maxRecDepth 20000 in
theorem sX12_steals_101 (v1 : Int32) (v2 : Int32) (v3 : Int32) (v4 : Int32) : ∀ (n : Nat) (v5 : Int32) (u : US), Sim tI mX12_steals 9 (fX12_steals_101 v1 v2 v3 v4 n v5 u) 101 [some (.ref 47), some (.int v1), some (.int v2), some (.int v3), some (.int v4), some (.int v5), none, none, none] [] u := by
  intro n
  induction n with
  | zero =>
    intro v5 u
    rw [fX12_steals_101.eq_1]
    exact r_none
  | succ n ih =>
    intro v5 u
    rw [fX12_steals_101.eq_2]
    refine r_iload dX12_steals_101 rfl ?_
    refine r_aload_n dX12_steals_103 rfl ?_
    refine r_get 47 3 flX12_24 rfl (v := .int (gI u 47 3)) rfl dX12_steals_104 ?_
    refine r_aload_n dX12_steals_107 rfl ?_
    refine r_get 47 4 flX12_27 rfl (v := .int (gI u 47 4)) rfl dX12_steals_108 ?_
    refine r_imul dX12_steals_111 ?_
    refine r_icmp_ge dX12_steals_112 (tgt := 220) rfl ?_ ?_
    · refine r_aload_n dX12_steals_220 rfl ?_
      refine r_get 47 40 flX12_98 rfl (v := .ref 71) rfl dX12_steals_221 ?_
      refine r_iload_n dX12_steals_224 rfl ?_
      refine r_iald 71 rfl dX12_steals_225 ?_
      refine r_ldc_w dX12_steals_226 kIX12_413 ?_
      refine r_icmp_lt dX12_steals_229 (tgt := 235) rfl ?_ ?_
      · refine r_aload_n dX12_steals_235 rfl ?_
        refine r_iconst dX12_steals_236 (v := 0) rfl ?_
        refine r_put 47 1 fpX12_15 rfl rfl dX12_steals_237 (r_nx (fun u1 => ?_))
        refine r_iload_n dX12_steals_240 rfl ?_
        refine r_istore dX12_steals_241 (Nat.le_of_ble_eq_true rfl) (ls2 := [some (.ref 47), some (.int v1), some (.int v2), some (.int v3), some (.int v4), some (.int v1), none, none, none]) rfl ?_
        refine r_aload_n dX12_steals_243 rfl ?_
        refine r_iload dX12_steals_244 rfl ?_
        refine r_i2l dX12_steals_246 ?_
        refine c_VV (As := [.long ((v1 : Int32).toInt64)]) kvX12_387 rfl (by decide) (okX12_enters ((v1 : Int32).toInt64) u1) rfl (Nat.le_of_ble_eq_true rfl) rfl dX12_steals_247 (fun u2 => ?_)
        exact sX12_steals_250 v1 v2 v3 v4 FU v1 u2
      · refine r_bipush dX12_steals_232 (v := -2) rfl ?_
        exact r_ireturn rfl dX12_steals_234
    · refine r_iconst dX12_steals_115 (v := 0) rfl ?_
      refine r_istore dX12_steals_116 (Nat.le_of_ble_eq_true rfl) (ls2 := [some (.ref 47), some (.int v1), some (.int v2), some (.int v3), some (.int v4), some (.int v5), some (.int 0), none, none]) rfl ?_
      exact sX12_steals_118 v1 v2 v3 v4 (fX12_steals_101 v1 v2 v3 v4 n) ih FU v5 0 u
def fX12_steals_48 (v1 : Int32) (v2 : Int32) (v3 : Int32) (v4 : Int32) : Nat → Int32 → US → Option (Int32 × US)
  | 0, _, _ => none
  | n + 1, v5, u => (if ((gI u 47 3) * (gI u 47 4)) ≤ v5 then fX12_steals_101 v1 v2 v3 v4 FU 0 u else (if v5 = v2 then gd (inb v5 36) ((if (gA u 70 v5) = 0 then gd (inb v5 36) (nx (sA u 71 v5 1000000) fun u2 => fX12_steals_48 v1 v2 v3 v4 n (v5 + 1) u2) else gd (inb v5 36) (nx (sA u 71 v5 0) fun u3 => fX12_steals_48 v1 v2 v3 v4 n (v5 + 1) u3))) else gd (inb v5 36) (nx (sA u 71 v5 1000000) fun u1 => fX12_steals_48 v1 v2 v3 v4 n (v5 + 1) u1)))
set_option maxRecDepth 20000 in
theorem sX12_steals_48 (v1 : Int32) (v2 : Int32) (v3 : Int32) (v4 : Int32) : ∀ (n : Nat) (v5 : Int32) (u : US), Sim tI mX12_steals 9 (fX12_steals_48 v1 v2 v3 v4 n v5 u) 48 [some (.ref 47), some (.int v1), some (.int v2), some (.int v3), some (.int v4), some (.int v5), none, none, none] [] u := by
  intro n
  induction n with
  | zero =>
    intro v5 u
    rw [fX12_steals_48.eq_1]
    exact r_none
  | succ n ih =>
    intro v5 u
    rw [fX12_steals_48.eq_2]
    refine r_iload dX12_steals_48 rfl ?_
    refine r_aload_n dX12_steals_50 rfl ?_
    refine r_get 47 3 flX12_24 rfl (v := .int (gI u 47 3)) rfl dX12_steals_51 ?_
    refine r_aload_n dX12_steals_54 rfl ?_
    refine r_get 47 4 flX12_27 rfl (v := .int (gI u 47 4)) rfl dX12_steals_55 ?_
    refine r_imul dX12_steals_58 ?_
    refine r_icmp_ge dX12_steals_59 (tgt := 98) rfl ?_ ?_
    · refine r_iconst dX12_steals_98 (v := 0) rfl ?_
      refine r_istore dX12_steals_99 (Nat.le_of_ble_eq_true rfl) (ls2 := [some (.ref 47), some (.int v1), some (.int v2), some (.int v3), some (.int v4), some (.int 0), none, none, none]) rfl ?_
      exact sX12_steals_101 v1 v2 v3 v4 FU 0 u
    · refine r_aload_n dX12_steals_62 rfl ?_
      refine r_get 47 40 flX12_98 rfl (v := .ref 71) rfl dX12_steals_63 ?_
      refine r_iload dX12_steals_66 rfl ?_
      refine r_iload dX12_steals_68 rfl ?_
      refine r_iload_n dX12_steals_70 rfl ?_
      refine r_icmp_ne dX12_steals_71 (tgt := 88) rfl ?_ ?_
      · refine r_ldc_w dX12_steals_88 kIX12_413 ?_
        refine r_iast 71 rfl dX12_steals_91 (r_nx (fun u1 => ?_))
        refine r_iinc dX12_steals_92 (Nat.le_of_ble_eq_true rfl) rfl (v := v5 + 1) rfl (ls2 := [some (.ref 47), some (.int v1), some (.int v2), some (.int v3), some (.int v4), some (.int (v5 + 1)), none, none, none]) rfl ?_
        refine r_goto dX12_steals_95 (tgt := 48) rfl ?_
        exact ih (v5 + 1) u1
      · refine r_aload_n dX12_steals_74 rfl ?_
        refine r_get 47 39 flX12_94 rfl (v := .ref 70) rfl dX12_steals_75 ?_
        refine r_iload dX12_steals_78 rfl ?_
        refine r_zald 70 rfl dX12_steals_80 ?_
        refine r_if_eq dX12_steals_81 (tgt := 88) rfl ?_ ?_
        · refine r_ldc_w dX12_steals_88 kIX12_413 ?_
          refine r_iast 71 rfl dX12_steals_91 (r_nx (fun u2 => ?_))
          refine r_iinc dX12_steals_92 (Nat.le_of_ble_eq_true rfl) rfl (v := v5 + 1) rfl (ls2 := [some (.ref 47), some (.int v1), some (.int v2), some (.int v3), some (.int v4), some (.int (v5 + 1)), none, none, none]) rfl ?_
          refine r_goto dX12_steals_95 (tgt := 48) rfl ?_
          exact ih (v5 + 1) u2
        · refine r_iconst dX12_steals_84 (v := 0) rfl ?_
          refine r_goto dX12_steals_85 (tgt := 91) rfl ?_
          refine r_iast 71 rfl dX12_steals_91 (r_nx (fun u3 => ?_))
          refine r_iinc dX12_steals_92 (Nat.le_of_ble_eq_true rfl) rfl (v := v5 + 1) rfl (ls2 := [some (.ref 47), some (.int v1), some (.int v2), some (.int v3), some (.int v4), some (.int (v5 + 1)), none, none, none]) rfl ?_
          refine r_goto dX12_steals_95 (tgt := 48) rfl ?_
          exact ih (v5 + 1) u3
def fX12_steals (v1 : Int32) (v2 : Int32) (v3 : Int32) (v4 : Int32) (u : US) : Option (Int32 × US) :=
  nx (sI u 47 0 0) fun u1 => oB (fX12_isField v1 u1) fun r2 u2 => (if r2 = 0 then some ((-1), u2) else oB (fX12_isField v2 u2) fun r3 u3 => (if r3 = 0 then some ((-1), u3) else oB (fX12_isBeing v3 v4 u3) fun r4 u4 => (if r4 = 0 then some ((-1), u4) else oB (fX12_laysDark 55 v3 v4 u4) fun r5 u5 => fX12_steals_48 v1 v2 v3 v4 FU 0 u5)))
set_option maxRecDepth 20000 in
theorem sX12_steals (v1 : Int32) (v2 : Int32) (v3 : Int32) (v4 : Int32) (u : US) : Sim tI mX12_steals 9 (fX12_steals v1 v2 v3 v4 u) 0 [some (.ref 47), some (.int v1), some (.int v2), some (.int v3), some (.int v4), none, none, none, none] [] u := by
  unfold fX12_steals
  refine r_aload_n dX12_steals_0 rfl ?_
  refine r_iconst dX12_steals_1 (v := 0) rfl ?_
  refine r_put 47 0 fpX12_3 rfl rfl dX12_steals_2 (r_nx (fun u1 => ?_))
  refine r_aload_n dX12_steals_5 rfl ?_
  refine r_iload_n dX12_steals_6 rfl ?_
  refine c_VI (As := [.int v1]) kvX12_364 rfl (by decide) (okX12_isField v1 u1) rfl (Nat.le_of_ble_eq_true rfl) rfl dX12_steals_7 (fun r2 u2 => ?_)
  refine r_if_eq dX12_steals_10 (tgt := 31) rfl ?_ ?_
  · refine r_iconst dX12_steals_31 (v := -1) rfl ?_
    exact r_ireturn rfl dX12_steals_32
  · refine r_aload_n dX12_steals_13 rfl ?_
    refine r_iload_n dX12_steals_14 rfl ?_
    refine c_VI (As := [.int v2]) kvX12_364 rfl (by decide) (okX12_isField v2 u2) rfl (Nat.le_of_ble_eq_true rfl) rfl dX12_steals_15 (fun r3 u3 => ?_)
    refine r_if_eq dX12_steals_18 (tgt := 31) rfl ?_ ?_
    · refine r_iconst dX12_steals_31 (v := -1) rfl ?_
      exact r_ireturn rfl dX12_steals_32
    · refine r_aload_n dX12_steals_21 rfl ?_
      refine r_iload_n dX12_steals_22 rfl ?_
      refine r_iload dX12_steals_23 rfl ?_
      refine c_VI (As := [.int v3, .int v4]) kvX12_421 rfl (by decide) (okX12_isBeing v3 v4 u3) rfl (Nat.le_of_ble_eq_true rfl) rfl dX12_steals_25 (fun r4 u4 => ?_)
      refine r_if_ne dX12_steals_28 (tgt := 33) rfl ?_ ?_
      · refine r_aload_n dX12_steals_33 rfl ?_
        refine r_aload_n dX12_steals_34 rfl ?_
        refine r_get 47 15 flX12_49 rfl (v := .ref 55) rfl dX12_steals_35 ?_
        refine r_iload_n dX12_steals_38 rfl ?_
        refine r_iload dX12_steals_39 rfl ?_
        refine c_VI (As := [.ref 55, .int v3, .int v4]) kvX12_424 rfl (by decide) (okX12_laysDark 55 v3 v4 u4) rfl (Nat.le_of_ble_eq_true rfl) rfl dX12_steals_41 (fun r5 u5 => ?_)
        refine r_pop dX12_steals_44 rfl ?_
        refine r_iconst dX12_steals_45 (v := 0) rfl ?_
        refine r_istore dX12_steals_46 (Nat.le_of_ble_eq_true rfl) (ls2 := [some (.ref 47), some (.int v1), some (.int v2), some (.int v3), some (.int v4), some (.int 0), none, none, none]) rfl ?_
        exact sX12_steals_48 v1 v2 v3 v4 FU 0 u5
      · refine r_iconst dX12_steals_31 (v := -1) rfl ?_
        exact r_ireturn rfl dX12_steals_32
theorem okX12_steals (v1 : Int32) (v2 : Int32) (v3 : Int32) (v4 : Int32) (u : US) : ∀ r, fX12_steals v1 v2 v3 v4 u = some r → MetC mX12_steals 9 [.ref 47, .int v1, .int v2, .int v3, .int v4] u (tI r) :=
  met_of (by decide +kernel) (Nat.le_of_ble_eq_true rfl) rfl (sX12_steals v1 v2 v3 v4 u)
def fX12_takes (v1 : Int32) (u : US) : Option (Int32 × US) :=
  nx (sI u 47 0 0) fun u1 => oV (fX12_putsBy u1) fun u2 => oB (fX12_takesDown v1 u2) fun r3 u3 => oB (fX12_counted r3 u3) fun r4 u4 => some (r4, u4)
set_option maxRecDepth 20000 in
theorem sX12_takes (v1 : Int32) (u : US) : Sim tI mX12_takes 3 (fX12_takes v1 u) 0 [some (.ref 47), some (.int v1)] [] u := by
  unfold fX12_takes
  refine r_aload_n dX12_takes_0 rfl ?_
  refine r_iconst dX12_takes_1 (v := 0) rfl ?_
  refine r_put 47 0 fpX12_3 rfl rfl dX12_takes_2 (r_nx (fun u1 => ?_))
  refine r_aload_n dX12_takes_5 rfl ?_
  refine c_VV (As := []) kvX12_367 rfl (by decide) (okX12_putsBy u1) rfl (Nat.le_of_ble_eq_true rfl) rfl dX12_takes_6 (fun u2 => ?_)
  refine r_aload_n dX12_takes_9 rfl ?_
  refine r_aload_n dX12_takes_10 rfl ?_
  refine r_iload_n dX12_takes_11 rfl ?_
  refine c_VI (As := [.int v1]) kvX12_376 rfl (by decide) (okX12_takesDown v1 u2) rfl (Nat.le_of_ble_eq_true rfl) rfl dX12_takes_12 (fun r3 u3 => ?_)
  refine c_VI (As := [.int r3]) kvX12_373 rfl (by decide) (okX12_counted r3 u3) rfl (Nat.le_of_ble_eq_true rfl) rfl dX12_takes_15 (fun r4 u4 => ?_)
  exact r_ireturn rfl dX12_takes_18
theorem okX12_takes (v1 : Int32) (u : US) : ∀ r, fX12_takes v1 u = some r → MetC mX12_takes 3 [.ref 47, .int v1] u (tI r) :=
  met_of (by decide +kernel) (Nat.le_of_ble_eq_true rfl) rfl (sX12_takes v1 u)
def fX12_thing_25 (v1 : Int32) (v2 : Int32) (u : US) : Option (Int32 × US) :=
  oB (fX12_refuse u) fun r1 u1 => some (r1, u1)
set_option maxRecDepth 20000 in
theorem sX12_thing_25 (v1 : Int32) (v2 : Int32) (u : US) : Sim tI mX12_thing 10 (fX12_thing_25 v1 v2 u) 25 [some (.ref 47), some (.int v1), some (.int v2), none, none] [] u := by
  unfold fX12_thing_25
  refine r_aload_n dX12_thing_25 rfl ?_
  refine c_VI (As := []) kvX12_337 rfl (by decide) (okX12_refuse u) rfl (Nat.le_of_ble_eq_true rfl) rfl dX12_thing_26 (fun r1 u1 => ?_)
  exact r_ireturn rfl dX12_thing_29
def fX12_thing_35 (v1 : Int32) (v2 : Int32) : Nat → Int32 → Int32 → US → Option (Int32 × US)
  | 0, _, _, _ => none
  | n + 1, v3, v4, u => (if (gI u 47 7) ≤ v4 then (if v2 = 0 then gd (inb v1 8) (some (gA u 49 v1, u)) else (if v2 = 1 then gd (inb v1 8) (some (gA u 50 v1, u)) else (if v2 = 2 then gd (inb v1 26) (some (gA u 55 v1, u)) else (if v2 = 3 then gd (inb (8 + v1) 26) (some (gA u 55 (8 + v1), u)) else some (v3, u))))) else oB (fX12_seen 55 v4 u) fun r1 u1 => oB (fX12_has r1 v1 u1) fun r2 u2 => (if r2 = 0 then fX12_thing_35 v1 v2 n (v3 ||| 0) (v4 + 1) u2 else fX12_thing_35 v1 v2 n (v3 ||| (1 <<< (v4 &&& 31))) (v4 + 1) u2))
set_option maxRecDepth 20000 in
theorem sX12_thing_35 (v1 : Int32) (v2 : Int32) : ∀ (n : Nat) (v3 : Int32) (v4 : Int32) (u : US), Sim tI mX12_thing 10 (fX12_thing_35 v1 v2 n v3 v4 u) 35 [some (.ref 47), some (.int v1), some (.int v2), some (.int v3), some (.int v4)] [] u := by
  intro n
  induction n with
  | zero =>
    intro v3 v4 u
    rw [fX12_thing_35.eq_1]
    exact r_none
  | succ n ih =>
    intro v3 v4 u
    rw [fX12_thing_35.eq_2]
    refine r_iload dX12_thing_35 rfl ?_
    refine r_aload_n dX12_thing_37 rfl ?_
    refine r_get 47 7 flX12_150 rfl (v := .int (gI u 47 7)) rfl dX12_thing_38 ?_
    refine r_icmp_ge dX12_thing_41 (tgt := 78) rfl ?_ ?_
    · refine r_iload_n dX12_thing_78 rfl ?_
      refine r_ite (fun hc0 => ?_) (fun hc0 => ?_)
      · refine r_tabIn dX12_thing_79 (off := 29) (by rw [hc0]; decide) (by rw [hc0]; decide) (by rw [hc0]; rfl) (tgt := 108) rfl ?_
        refine r_aload_n dX12_thing_108 rfl ?_
        refine r_get 47 9 flX12_30 rfl (v := .ref 49) rfl dX12_thing_109 ?_
        refine r_iload_n dX12_thing_112 rfl ?_
        refine r_iald 49 rfl dX12_thing_113 ?_
        exact r_ireturn rfl dX12_thing_114
      refine r_ite (fun hc1 => ?_) (fun hc1 => ?_)
      · refine r_tabIn dX12_thing_79 (off := 36) (by rw [hc1]; decide) (by rw [hc1]; decide) (by rw [hc1]; rfl) (tgt := 115) rfl ?_
        refine r_aload_n dX12_thing_115 rfl ?_
        refine r_get 47 10 flX12_34 rfl (v := .ref 50) rfl dX12_thing_116 ?_
        refine r_iload_n dX12_thing_119 rfl ?_
        refine r_iald 50 rfl dX12_thing_120 ?_
        exact r_ireturn rfl dX12_thing_121
      refine r_ite (fun hc2 => ?_) (fun hc2 => ?_)
      · refine r_tabIn dX12_thing_79 (off := 43) (by rw [hc2]; decide) (by rw [hc2]; decide) (by rw [hc2]; rfl) (tgt := 122) rfl ?_
        refine r_aload_n dX12_thing_122 rfl ?_
        refine r_get 47 15 flX12_49 rfl (v := .ref 55) rfl dX12_thing_123 ?_
        refine r_iload_n dX12_thing_126 rfl ?_
        refine r_iald 55 rfl dX12_thing_127 ?_
        exact r_ireturn rfl dX12_thing_128
      refine r_ite (fun hc3 => ?_) (fun hc3 => ?_)
      · refine r_tabIn dX12_thing_79 (off := 50) (by rw [hc3]; decide) (by rw [hc3]; decide) (by rw [hc3]; rfl) (tgt := 129) rfl ?_
        refine r_aload_n dX12_thing_129 rfl ?_
        refine r_get 47 15 flX12_49 rfl (v := .ref 55) rfl dX12_thing_130 ?_
        refine r_bipush dX12_thing_133 (v := 8) rfl ?_
        refine r_iload_n dX12_thing_135 rfl ?_
        refine r_iadd dX12_thing_136 ?_
        refine r_iald 55 rfl dX12_thing_137 ?_
        exact r_ireturn rfl dX12_thing_138
      have hn0 := ne_int hc0
      have hn1 := ne_int hc1
      have hn2 := ne_int hc2
      have hn3 := ne_int hc3
      rw [show (0 : Int32).toInt = 0 from rfl] at hn0
      rw [show (1 : Int32).toInt = 1 from rfl] at hn1
      rw [show (2 : Int32).toInt = 2 from rfl] at hn2
      rw [show (3 : Int32).toInt = 3 from rfl] at hn3
      refine r_tabOut dX12_thing_79 (by omega) (tgt := 139) rfl ?_
      refine r_iload_n dX12_thing_139 rfl ?_
      exact r_ireturn rfl dX12_thing_140
    · refine r_iload_n dX12_thing_44 rfl ?_
      refine r_aload_n dX12_thing_45 rfl ?_
      refine r_aload_n dX12_thing_46 rfl ?_
      refine r_get 47 15 flX12_49 rfl (v := .ref 55) rfl dX12_thing_47 ?_
      refine r_iload dX12_thing_50 rfl ?_
      refine c_VI (As := [.ref 55, .int v4]) kvX12_340 rfl (by decide) (okX12_seen 55 v4 u) rfl (Nat.le_of_ble_eq_true rfl) rfl dX12_thing_52 (fun r1 u1 => ?_)
      refine r_iload_n dX12_thing_55 rfl ?_
      refine c_SI (As := [.int r1, .int v1]) ksX12_296 (by decide) (okX12_has r1 v1 u1) rfl (Nat.le_of_ble_eq_true rfl) rfl dX12_thing_56 (fun r2 u2 => ?_)
      refine r_if_eq dX12_thing_59 (tgt := 69) rfl ?_ ?_
      · refine r_iconst dX12_thing_69 (v := 0) rfl ?_
        refine r_ior dX12_thing_70 ?_
        refine r_istore_n dX12_thing_71 (Nat.le_of_ble_eq_true rfl) (ls2 := [some (.ref 47), some (.int v1), some (.int v2), some (.int (v3 ||| 0)), some (.int v4)]) rfl ?_
        refine r_iinc dX12_thing_72 (Nat.le_of_ble_eq_true rfl) rfl (v := v4 + 1) rfl (ls2 := [some (.ref 47), some (.int v1), some (.int v2), some (.int (v3 ||| 0)), some (.int (v4 + 1))]) rfl ?_
        refine r_goto dX12_thing_75 (tgt := 35) rfl ?_
        exact ih (v3 ||| 0) (v4 + 1) u2
      · refine r_iconst dX12_thing_62 (v := 1) rfl ?_
        refine r_iload dX12_thing_63 rfl ?_
        refine r_ishl dX12_thing_65 ?_
        refine r_goto dX12_thing_66 (tgt := 70) rfl ?_
        refine r_ior dX12_thing_70 ?_
        refine r_istore_n dX12_thing_71 (Nat.le_of_ble_eq_true rfl) (ls2 := [some (.ref 47), some (.int v1), some (.int v2), some (.int (v3 ||| (1 <<< (v4 &&& 31)))), some (.int v4)]) rfl ?_
        refine r_iinc dX12_thing_72 (Nat.le_of_ble_eq_true rfl) rfl (v := v4 + 1) rfl (ls2 := [some (.ref 47), some (.int v1), some (.int v2), some (.int (v3 ||| (1 <<< (v4 &&& 31)))), some (.int (v4 + 1))]) rfl ?_
        refine r_goto dX12_thing_75 (tgt := 35) rfl ?_
        exact ih (v3 ||| (1 <<< (v4 &&& 31))) (v4 + 1) u2
def fX12_thing (v1 : Int32) (v2 : Int32) (u : US) : Option (Int32 × US) :=
  nx (sI u 47 0 0) fun u1 => oB (fX12_isThing v1 u1) fun r2 u2 => (if r2 = 0 then fX12_thing_25 v1 v2 u2 else oB (fX12_in ((v2 : Int32).toInt64) 0 4 u2) fun r3 u3 => (if r3 = 0 then fX12_thing_25 v1 v2 u3 else fX12_thing_35 v1 v2 FU 0 0 u3))
set_option maxRecDepth 20000 in
theorem sX12_thing (v1 : Int32) (v2 : Int32) (u : US) : Sim tI mX12_thing 10 (fX12_thing v1 v2 u) 0 [some (.ref 47), some (.int v1), some (.int v2), none, none] [] u := by
  unfold fX12_thing
  refine r_aload_n dX12_thing_0 rfl ?_
  refine r_iconst dX12_thing_1 (v := 0) rfl ?_
  refine r_put 47 0 fpX12_3 rfl rfl dX12_thing_2 (r_nx (fun u1 => ?_))
  refine r_aload_n dX12_thing_5 rfl ?_
  refine r_iload_n dX12_thing_6 rfl ?_
  refine c_VI (As := [.int v1]) kvX12_332 rfl (by decide) (okX12_isThing v1 u1) rfl (Nat.le_of_ble_eq_true rfl) rfl dX12_thing_7 (fun r2 u2 => ?_)
  refine r_if_eq dX12_thing_10 (tgt := 25) rfl ?_ ?_
  · exact sX12_thing_25 v1 v2 u2
  · refine r_iload_n dX12_thing_13 rfl ?_
    refine r_i2l dX12_thing_14 ?_
    refine r_lconst dX12_thing_15 (v := 0) rfl ?_
    refine r_ldc2 dX12_thing_16 kJX12_335 ?_
    refine c_SI (As := [.long ((v2 : Int32).toInt64), .long 0, .long 4]) ksX12_143 (by decide) (okX12_in ((v2 : Int32).toInt64) 0 4 u2) rfl (Nat.le_of_ble_eq_true rfl) rfl dX12_thing_19 (fun r3 u3 => ?_)
    refine r_if_ne dX12_thing_22 (tgt := 30) rfl ?_ ?_
    · refine r_iconst dX12_thing_30 (v := 0) rfl ?_
      refine r_istore_n dX12_thing_31 (Nat.le_of_ble_eq_true rfl) (ls2 := [some (.ref 47), some (.int v1), some (.int v2), some (.int 0), none]) rfl ?_
      refine r_iconst dX12_thing_32 (v := 0) rfl ?_
      refine r_istore dX12_thing_33 (Nat.le_of_ble_eq_true rfl) (ls2 := [some (.ref 47), some (.int v1), some (.int v2), some (.int 0), some (.int 0)]) rfl ?_
      exact sX12_thing_35 v1 v2 FU 0 0 u3
    · exact sX12_thing_25 v1 v2 u3
theorem okX12_thing (v1 : Int32) (v2 : Int32) (u : US) : ∀ r, fX12_thing v1 v2 u = some r → MetC mX12_thing 10 [.ref 47, .int v1, .int v2] u (tI r) :=
  met_of (by decide +kernel) (Nat.le_of_ble_eq_true rfl) rfl (sX12_thing v1 v2 u)
def fX12_things_21 : Nat → Int32 → US → Option (Int32 × US)
  | 0, _, _ => none
  | n + 1, v2, u => (if (gI u 47 23) ≤ v2 then oB (fX12_isNew u) fun r1 u1 => some (r1, u1) else gd (inb (4 * v2) 32) (gd (inb (gI u 47 5) 8) (nx (sA u 49 (gI u 47 5) (gA u 58 (4 * v2))) fun u2 => gd (inb ((4 * v2) + 1) 32) (gd (inb (gI u2 47 5) 8) (nx (sA u2 50 (gI u2 47 5) (gA u2 58 ((4 * v2) + 1))) fun u3 => gd (inb ((4 * v2) + 2) 32) (gd (inb (gI u3 47 5) 26) (nx (sA u3 55 (gI u3 47 5) (gA u3 58 ((4 * v2) + 2))) fun u4 => gd (inb ((4 * v2) + 3) 32) (gd (inb (8 + (gI u4 47 5)) 26) (nx (sA u4 55 (8 + (gI u4 47 5)) (gA u4 58 ((4 * v2) + 3))) fun u5 => nx (sI u5 47 5 ((gI u5 47 5) + 1)) fun u6 => fX12_things_21 n (v2 + 1) u6)))))))))
set_option maxRecDepth 20000 in
theorem sX12_things_21 : ∀ (n : Nat) (v2 : Int32) (u : US), Sim tI mX12_things 11 (fX12_things_21 n v2 u) 21 [some (.ref 47), none, some (.int v2)] [] u := by
  intro n
  induction n with
  | zero =>
    intro v2 u
    rw [fX12_things_21.eq_1]
    exact r_none
  | succ n ih =>
    intro v2 u
    rw [fX12_things_21.eq_2]
    refine r_iload_n dX12_things_21 rfl ?_
    refine r_aload_n dX12_things_22 rfl ?_
    refine r_get 47 23 flX12_218 rfl (v := .int (gI u 47 23)) rfl dX12_things_23 ?_
    refine r_icmp_ge dX12_things_26 (tgt := 122) rfl ?_ ?_
    · refine r_aload_n dX12_things_122 rfl ?_
      refine c_VI (As := []) kvX12_258 rfl (by decide) (okX12_isNew u) rfl (Nat.le_of_ble_eq_true rfl) rfl dX12_things_123 (fun r1 u1 => ?_)
      exact r_ireturn rfl dX12_things_126
    · refine r_aload_n dX12_things_29 rfl ?_
      refine r_get 47 9 flX12_30 rfl (v := .ref 49) rfl dX12_things_30 ?_
      refine r_aload_n dX12_things_33 rfl ?_
      refine r_get 47 5 flX12_140 rfl (v := .int (gI u 47 5)) rfl dX12_things_34 ?_
      refine r_aload_n dX12_things_37 rfl ?_
      refine r_get 47 22 flX12_58 rfl (v := .ref 58) rfl dX12_things_38 ?_
      refine r_iconst dX12_things_41 (v := 4) rfl ?_
      refine r_iload_n dX12_things_42 rfl ?_
      refine r_imul dX12_things_43 ?_
      refine r_iald 58 rfl dX12_things_44 ?_
      refine r_iast 49 rfl dX12_things_45 (r_nx (fun u2 => ?_))
      refine r_aload_n dX12_things_46 rfl ?_
      refine r_get 47 10 flX12_34 rfl (v := .ref 50) rfl dX12_things_47 ?_
      refine r_aload_n dX12_things_50 rfl ?_
      refine r_get 47 5 flX12_140 rfl (v := .int (gI u2 47 5)) rfl dX12_things_51 ?_
      refine r_aload_n dX12_things_54 rfl ?_
      refine r_get 47 22 flX12_58 rfl (v := .ref 58) rfl dX12_things_55 ?_
      refine r_iconst dX12_things_58 (v := 4) rfl ?_
      refine r_iload_n dX12_things_59 rfl ?_
      refine r_imul dX12_things_60 ?_
      refine r_iconst dX12_things_61 (v := 1) rfl ?_
      refine r_iadd dX12_things_62 ?_
      refine r_iald 58 rfl dX12_things_63 ?_
      refine r_iast 50 rfl dX12_things_64 (r_nx (fun u3 => ?_))
      refine r_aload_n dX12_things_65 rfl ?_
      refine r_get 47 15 flX12_49 rfl (v := .ref 55) rfl dX12_things_66 ?_
      refine r_aload_n dX12_things_69 rfl ?_
      refine r_get 47 5 flX12_140 rfl (v := .int (gI u3 47 5)) rfl dX12_things_70 ?_
      refine r_aload_n dX12_things_73 rfl ?_
      refine r_get 47 22 flX12_58 rfl (v := .ref 58) rfl dX12_things_74 ?_
      refine r_iconst dX12_things_77 (v := 4) rfl ?_
      refine r_iload_n dX12_things_78 rfl ?_
      refine r_imul dX12_things_79 ?_
      refine r_iconst dX12_things_80 (v := 2) rfl ?_
      refine r_iadd dX12_things_81 ?_
      refine r_iald 58 rfl dX12_things_82 ?_
      refine r_iast 55 rfl dX12_things_83 (r_nx (fun u4 => ?_))
      refine r_aload_n dX12_things_84 rfl ?_
      refine r_get 47 15 flX12_49 rfl (v := .ref 55) rfl dX12_things_85 ?_
      refine r_bipush dX12_things_88 (v := 8) rfl ?_
      refine r_aload_n dX12_things_90 rfl ?_
      refine r_get 47 5 flX12_140 rfl (v := .int (gI u4 47 5)) rfl dX12_things_91 ?_
      refine r_iadd dX12_things_94 ?_
      refine r_aload_n dX12_things_95 rfl ?_
      refine r_get 47 22 flX12_58 rfl (v := .ref 58) rfl dX12_things_96 ?_
      refine r_iconst dX12_things_99 (v := 4) rfl ?_
      refine r_iload_n dX12_things_100 rfl ?_
      refine r_imul dX12_things_101 ?_
      refine r_iconst dX12_things_102 (v := 3) rfl ?_
      refine r_iadd dX12_things_103 ?_
      refine r_iald 58 rfl dX12_things_104 ?_
      refine r_iast 55 rfl dX12_things_105 (r_nx (fun u5 => ?_))
      refine r_aload_n dX12_things_106 rfl ?_
      refine r_dup dX12_things_107 rfl ?_
      refine r_get 47 5 flX12_140 rfl (v := .int (gI u5 47 5)) rfl dX12_things_108 ?_
      refine r_iconst dX12_things_111 (v := 1) rfl ?_
      refine r_iadd dX12_things_112 ?_
      refine r_put 47 5 fpX12_140 rfl rfl dX12_things_113 (r_nx (fun u6 => ?_))
      refine r_iinc dX12_things_116 (Nat.le_of_ble_eq_true rfl) rfl (v := v2 + 1) rfl (ls2 := [some (.ref 47), none, some (.int (v2 + 1))]) rfl ?_
      refine r_goto dX12_things_119 (tgt := 21) rfl ?_
      exact ih (v2 + 1) u6
def fX12_things (u : US) : Option (Int32 × US) :=
  nx (sI u 47 0 0) fun u1 => oB (fX12_readsLines 0 47 u1) fun r2 u2 => (if 0 ≤ r2 then fX12_things_21 FU 0 u2 else some (r2, u2))
set_option maxRecDepth 20000 in
theorem sX12_things (u : US) : Sim tI mX12_things 11 (fX12_things u) 0 [some (.ref 47), none, none] [] u := by
  unfold fX12_things
  refine r_aload_n dX12_things_0 rfl ?_
  refine r_iconst dX12_things_1 (v := 0) rfl ?_
  refine r_put 47 0 fpX12_3 rfl rfl dX12_things_2 (r_nx (fun u1 => ?_))
  refine r_aload_n dX12_things_5 rfl ?_
  refine r_iconst dX12_things_6 (v := 0) rfl ?_
  refine r_bipush dX12_things_7 (v := 47) rfl ?_
  refine c_VI (As := [.int 0, .int 47]) kvX12_255 rfl (by decide) (okX12_readsLines 0 47 u1) rfl (Nat.le_of_ble_eq_true rfl) rfl dX12_things_9 (fun r2 u2 => ?_)
  refine r_istore_n dX12_things_12 (Nat.le_of_ble_eq_true rfl) (ls2 := [some (.ref 47), some (.int r2), none]) rfl ?_
  refine r_iload_n dX12_things_13 rfl ?_
  refine r_if_ge dX12_things_14 (tgt := 19) rfl ?_ ?_
  · refine r_iconst dX12_things_19 (v := 0) rfl ?_
    refine r_istore_n dX12_things_20 (Nat.le_of_ble_eq_true rfl) (ls2 := [some (.ref 47), some (.int r2), some (.int 0)]) rfl ?_
    refine r_mk [true, false, true] (ls2 := [some (.ref 47), none, some (.int 0)]) rfl ?_
    exact sX12_things_21 FU 0 u2
  · refine r_iload_n dX12_things_17 rfl ?_
    exact r_ireturn rfl dX12_things_18
theorem okX12_things (u : US) : ∀ r, fX12_things u = some r → MetC mX12_things 11 [.ref 47] u (tI r) :=
  met_of (by decide +kernel) (Nat.le_of_ble_eq_true rfl) rfl (sX12_things u)
def fX12_thrown (u : US) : Option (Int32 × US) :=
  some (gI u 47 0, u)
set_option maxRecDepth 20000 in
theorem sX12_thrown (u : US) : Sim tI mX12_thrown 0 (fX12_thrown u) 0 [some (.ref 47)] [] u := by
  unfold fX12_thrown
  refine r_aload_n dX12_thrown_0 rfl ?_
  refine r_get 47 0 flX12_3 rfl (v := .int (gI u 47 0)) rfl dX12_thrown_1 ?_
  exact r_ireturn rfl dX12_thrown_4
theorem okX12_thrown (u : US) : ∀ r, fX12_thrown u = some r → MetC mX12_thrown 0 [.ref 47] u (tI r) :=
  met_of (by decide +kernel) (Nat.le_of_ble_eq_true rfl) rfl (sX12_thrown u)
def fX12_undo_26 : Nat → Int32 → US → Option (Int32 × US)
  | 0, _, _ => none
  | n + 1, v1, u => (if (26 : Int32) ≤ v1 then some (gI u 47 30, u) else gd (inb ((26 * (gI u 47 30)) + v1) 416) (gd (inb v1 26) (nx (sA u 55 v1 (gA u 63 ((26 * (gI u 47 30)) + v1))) fun u1 => fX12_undo_26 n (v1 + 1) u1)))
set_option maxRecDepth 20000 in
theorem sX12_undo_26 : ∀ (n : Nat) (v1 : Int32) (u : US), Sim tI mX12_undo 0 (fX12_undo_26 n v1 u) 26 [some (.ref 47), some (.int v1)] [] u := by
  intro n
  induction n with
  | zero =>
    intro v1 u
    rw [fX12_undo_26.eq_1]
    exact r_none
  | succ n ih =>
    intro v1 u
    rw [fX12_undo_26.eq_2]
    refine r_iload_n dX12_undo_26 rfl ?_
    refine r_bipush dX12_undo_27 (v := 26) rfl ?_
    refine r_icmp_ge dX12_undo_29 (tgt := 58) rfl ?_ ?_
    · refine r_aload_n dX12_undo_58 rfl ?_
      refine r_get 47 30 flX12_215 rfl (v := .int (gI u 47 30)) rfl dX12_undo_59 ?_
      exact r_ireturn rfl dX12_undo_62
    · refine r_aload_n dX12_undo_32 rfl ?_
      refine r_get 47 15 flX12_49 rfl (v := .ref 55) rfl dX12_undo_33 ?_
      refine r_iload_n dX12_undo_36 rfl ?_
      refine r_aload_n dX12_undo_37 rfl ?_
      refine r_get 47 31 flX12_73 rfl (v := .ref 63) rfl dX12_undo_38 ?_
      refine r_bipush dX12_undo_41 (v := 26) rfl ?_
      refine r_aload_n dX12_undo_43 rfl ?_
      refine r_get 47 30 flX12_215 rfl (v := .int (gI u 47 30)) rfl dX12_undo_44 ?_
      refine r_imul dX12_undo_47 ?_
      refine r_iload_n dX12_undo_48 rfl ?_
      refine r_iadd dX12_undo_49 ?_
      refine r_iald 63 rfl dX12_undo_50 ?_
      refine r_iast 55 rfl dX12_undo_51 (r_nx (fun u1 => ?_))
      refine r_iinc dX12_undo_52 (Nat.le_of_ble_eq_true rfl) rfl (v := v1 + 1) rfl (ls2 := [some (.ref 47), some (.int (v1 + 1))]) rfl ?_
      refine r_goto dX12_undo_55 (tgt := 26) rfl ?_
      exact ih (v1 + 1) u1
def fX12_undo (u : US) : Option (Int32 × US) :=
  nx (sI u 47 0 0) fun u1 => (if (gI u1 47 30) = 0 then some ((-1), u1) else nx (sI u1 47 30 ((gI u1 47 30) - 1)) fun u2 => fX12_undo_26 FU 0 u2)
set_option maxRecDepth 20000 in
theorem sX12_undo (u : US) : Sim tI mX12_undo 0 (fX12_undo u) 0 [some (.ref 47), none] [] u := by
  unfold fX12_undo
  refine r_aload_n dX12_undo_0 rfl ?_
  refine r_iconst dX12_undo_1 (v := 0) rfl ?_
  refine r_put 47 0 fpX12_3 rfl rfl dX12_undo_2 (r_nx (fun u1 => ?_))
  refine r_aload_n dX12_undo_5 rfl ?_
  refine r_get 47 30 flX12_215 rfl (v := .int (gI u1 47 30)) rfl dX12_undo_6 ?_
  refine r_if_ne dX12_undo_9 (tgt := 14) rfl ?_ ?_
  · refine r_aload_n dX12_undo_14 rfl ?_
    refine r_dup dX12_undo_15 rfl ?_
    refine r_get 47 30 flX12_215 rfl (v := .int (gI u1 47 30)) rfl dX12_undo_16 ?_
    refine r_iconst dX12_undo_19 (v := 1) rfl ?_
    refine r_isub dX12_undo_20 ?_
    refine r_put 47 30 fpX12_215 rfl rfl dX12_undo_21 (r_nx (fun u2 => ?_))
    refine r_iconst dX12_undo_24 (v := 0) rfl ?_
    refine r_istore_n dX12_undo_25 (Nat.le_of_ble_eq_true rfl) (ls2 := [some (.ref 47), some (.int 0)]) rfl ?_
    exact sX12_undo_26 FU 0 u2
  · refine r_iconst dX12_undo_12 (v := -1) rfl ?_
    exact r_ireturn rfl dX12_undo_13
theorem okX12_undo (u : US) : ∀ r, fX12_undo u = some r → MetC mX12_undo 0 [.ref 47] u (tI r) :=
  met_of (by decide +kernel) (Nat.le_of_ble_eq_true rfl) rfl (sX12_undo u)
def fX12_watch_107 (v1 : Int32) (k28 : Int32 → Int32 → US → Option (Int32 × US)) (v2 : Int32) (v3 : Int32) (v4 : Int32) (s0 : Int32) (u : US) : Option (Int32 × US) :=
  (if s0 = 0 then k28 v2 (v3 + 1) u else (if (v1 &&& (v4 ^^^ (-1))) = 0 then k28 v3 (v3 + 1) u else k28 v2 (v3 + 1) u))
set_option maxRecDepth 20000 in
theorem sX12_watch_107 (v1 : Int32) (k28 : Int32 → Int32 → US → Option (Int32 × US)) (hk28 : ∀ (v2 : Int32) (v3 : Int32) (u : US), Sim tI mX12_watch 10 (k28 v2 v3 u) 28 [some (.ref 47), some (.int v1), some (.int v2), some (.int v3), none, none] [] u) (v2 : Int32) (v3 : Int32) (v4 : Int32) (s0 : Int32) (u : US) : Sim tI mX12_watch 10 (fX12_watch_107 v1 k28 v2 v3 v4 s0 u) 107 [some (.ref 47), some (.int v1), some (.int v2), some (.int v3), some (.int v4), none] [.int s0] u := by
  unfold fX12_watch_107
  refine r_istore dX12_watch_107 (Nat.le_of_ble_eq_true rfl) (ls2 := [some (.ref 47), some (.int v1), some (.int v2), some (.int v3), some (.int v4), some (.int s0)]) rfl ?_
  refine r_iload dX12_watch_109 rfl ?_
  refine r_if_eq dX12_watch_111 (tgt := 127) rfl ?_ ?_
  · refine r_iload_n dX12_watch_127 rfl ?_
    refine r_istore_n dX12_watch_128 (Nat.le_of_ble_eq_true rfl) (ls2 := [some (.ref 47), some (.int v1), some (.int v2), some (.int v3), some (.int v4), some (.int s0)]) rfl ?_
    refine r_iinc dX12_watch_129 (Nat.le_of_ble_eq_true rfl) rfl (v := v3 + 1) rfl (ls2 := [some (.ref 47), some (.int v1), some (.int v2), some (.int (v3 + 1)), some (.int v4), some (.int s0)]) rfl ?_
    refine r_goto dX12_watch_132 (tgt := 28) rfl ?_
    refine r_mk [true, true, true, true, false, false] (ls2 := [some (.ref 47), some (.int v1), some (.int v2), some (.int (v3 + 1)), none, none]) rfl ?_
    exact hk28 v2 (v3 + 1) u
  · refine r_iload_n dX12_watch_114 rfl ?_
    refine r_iload dX12_watch_115 rfl ?_
    refine r_iconst dX12_watch_117 (v := -1) rfl ?_
    refine r_ixor dX12_watch_118 ?_
    refine r_iand dX12_watch_119 ?_
    refine r_if_ne dX12_watch_120 (tgt := 127) rfl ?_ ?_
    · refine r_iload_n dX12_watch_127 rfl ?_
      refine r_istore_n dX12_watch_128 (Nat.le_of_ble_eq_true rfl) (ls2 := [some (.ref 47), some (.int v1), some (.int v2), some (.int v3), some (.int v4), some (.int s0)]) rfl ?_
      refine r_iinc dX12_watch_129 (Nat.le_of_ble_eq_true rfl) rfl (v := v3 + 1) rfl (ls2 := [some (.ref 47), some (.int v1), some (.int v2), some (.int (v3 + 1)), some (.int v4), some (.int s0)]) rfl ?_
      refine r_goto dX12_watch_132 (tgt := 28) rfl ?_
      refine r_mk [true, true, true, true, false, false] (ls2 := [some (.ref 47), some (.int v1), some (.int v2), some (.int (v3 + 1)), none, none]) rfl ?_
      exact hk28 v2 (v3 + 1) u
    · refine r_iload_n dX12_watch_123 rfl ?_
      refine r_goto dX12_watch_124 (tgt := 128) rfl ?_
      refine r_istore_n dX12_watch_128 (Nat.le_of_ble_eq_true rfl) (ls2 := [some (.ref 47), some (.int v1), some (.int v3), some (.int v3), some (.int v4), some (.int s0)]) rfl ?_
      refine r_iinc dX12_watch_129 (Nat.le_of_ble_eq_true rfl) rfl (v := v3 + 1) rfl (ls2 := [some (.ref 47), some (.int v1), some (.int v3), some (.int (v3 + 1)), some (.int v4), some (.int s0)]) rfl ?_
      refine r_goto dX12_watch_132 (tgt := 28) rfl ?_
      refine r_mk [true, true, true, true, false, false] (ls2 := [some (.ref 47), some (.int v1), some (.int v3), some (.int (v3 + 1)), none, none]) rfl ?_
      exact hk28 v3 (v3 + 1) u
def fX12_watch_102 (v1 : Int32) (k28 : Int32 → Int32 → US → Option (Int32 × US)) (v2 : Int32) (v3 : Int32) (v4 : Int32) (u : US) : Option (Int32 × US) :=
  fX12_watch_107 v1 k28 v2 v3 v4 1 u
set_option maxRecDepth 20000 in
theorem sX12_watch_102 (v1 : Int32) (k28 : Int32 → Int32 → US → Option (Int32 × US)) (hk28 : ∀ (v2 : Int32) (v3 : Int32) (u : US), Sim tI mX12_watch 10 (k28 v2 v3 u) 28 [some (.ref 47), some (.int v1), some (.int v2), some (.int v3), none, none] [] u) (v2 : Int32) (v3 : Int32) (v4 : Int32) (u : US) : Sim tI mX12_watch 10 (fX12_watch_102 v1 k28 v2 v3 v4 u) 102 [some (.ref 47), some (.int v1), some (.int v2), some (.int v3), some (.int v4), none] [] u := by
  unfold fX12_watch_102
  refine r_iconst dX12_watch_102 (v := 1) rfl ?_
  refine r_goto dX12_watch_103 (tgt := 107) rfl ?_
  exact sX12_watch_107 v1 k28 hk28 v2 v3 v4 1 u
def fX12_watch_44 (v1 : Int32) (k28 : Int32 → Int32 → US → Option (Int32 × US)) : Nat → Int32 → Int32 → Int32 → Int32 → US → Option (Int32 × US)
  | 0, _, _, _, _, _ => none
  | n + 1, v2, v3, v4, v5, u => (if (gI u 47 7) ≤ v5 then (if v2 < 0 then fX12_watch_102 v1 k28 v2 v3 v4 u else oB (fJ6_bitCount_0f7a4 v3 u) fun r1 u1 => oB (fJ6_bitCount_0f7a4 v2 u1) fun r2 u2 => (if r2 ≤ r1 then fX12_watch_107 v1 k28 v2 v3 v4 0 u2 else fX12_watch_102 v1 k28 v2 v3 v4 u2)) else oB (fX12_has v3 v5 u) fun r3 u3 => (if r3 = 0 then fX12_watch_44 v1 k28 n v2 v3 (v4 ||| 0) (v5 + 1) u3 else oB (fX12_seen 55 v5 u3) fun r4 u4 => fX12_watch_44 v1 k28 n v2 v3 (v4 ||| r4) (v5 + 1) u4))
set_option maxRecDepth 20000 in
theorem sX12_watch_44 (v1 : Int32) (k28 : Int32 → Int32 → US → Option (Int32 × US)) (hk28 : ∀ (v2 : Int32) (v3 : Int32) (u : US), Sim tI mX12_watch 10 (k28 v2 v3 u) 28 [some (.ref 47), some (.int v1), some (.int v2), some (.int v3), none, none] [] u) : ∀ (n : Nat) (v2 : Int32) (v3 : Int32) (v4 : Int32) (v5 : Int32) (u : US), Sim tI mX12_watch 10 (fX12_watch_44 v1 k28 n v2 v3 v4 v5 u) 44 [some (.ref 47), some (.int v1), some (.int v2), some (.int v3), some (.int v4), some (.int v5)] [] u := by
  intro n
  induction n with
  | zero =>
    intro v2 v3 v4 v5 u
    rw [fX12_watch_44.eq_1]
    exact r_none
  | succ n ih =>
    intro v2 v3 v4 v5 u
    rw [fX12_watch_44.eq_2]
    refine r_iload dX12_watch_44 rfl ?_
    refine r_aload_n dX12_watch_46 rfl ?_
    refine r_get 47 7 flX12_150 rfl (v := .int (gI u 47 7)) rfl dX12_watch_47 ?_
    refine r_icmp_ge dX12_watch_50 (tgt := 87) rfl ?_ ?_
    · refine r_iload_n dX12_watch_87 rfl ?_
      refine r_if_lt dX12_watch_88 (tgt := 102) rfl ?_ ?_
      · refine r_mk [true, true, true, true, true, false] (ls2 := [some (.ref 47), some (.int v1), some (.int v2), some (.int v3), some (.int v4), none]) rfl ?_
        exact sX12_watch_102 v1 k28 hk28 v2 v3 v4 u
      · refine r_iload_n dX12_watch_91 rfl ?_
        refine c_SI (As := [.int v3]) ksX12_300 (by decide) (okJ6_bitCount_0f7a4 v3 u) rfl (Nat.le_of_ble_eq_true rfl) rfl dX12_watch_92 (fun r1 u1 => ?_)
        refine r_iload_n dX12_watch_95 rfl ?_
        refine c_SI (As := [.int v2]) ksX12_300 (by decide) (okJ6_bitCount_0f7a4 v2 u1) rfl (Nat.le_of_ble_eq_true rfl) rfl dX12_watch_96 (fun r2 u2 => ?_)
        refine r_icmp_ge dX12_watch_99 (tgt := 106) rfl ?_ ?_
        · refine r_iconst dX12_watch_106 (v := 0) rfl ?_
          refine r_mk [true, true, true, true, true, false] (ls2 := [some (.ref 47), some (.int v1), some (.int v2), some (.int v3), some (.int v4), none]) rfl ?_
          exact sX12_watch_107 v1 k28 hk28 v2 v3 v4 0 u2
        · refine r_mk [true, true, true, true, true, false] (ls2 := [some (.ref 47), some (.int v1), some (.int v2), some (.int v3), some (.int v4), none]) rfl ?_
          exact sX12_watch_102 v1 k28 hk28 v2 v3 v4 u2
    · refine r_iload dX12_watch_53 rfl ?_
      refine r_iload_n dX12_watch_55 rfl ?_
      refine r_iload dX12_watch_56 rfl ?_
      refine c_SI (As := [.int v3, .int v5]) ksX12_296 (by decide) (okX12_has v3 v5 u) rfl (Nat.le_of_ble_eq_true rfl) rfl dX12_watch_58 (fun r3 u3 => ?_)
      refine r_if_eq dX12_watch_61 (tgt := 77) rfl ?_ ?_
      · refine r_iconst dX12_watch_77 (v := 0) rfl ?_
        refine r_ior dX12_watch_78 ?_
        refine r_istore dX12_watch_79 (Nat.le_of_ble_eq_true rfl) (ls2 := [some (.ref 47), some (.int v1), some (.int v2), some (.int v3), some (.int (v4 ||| 0)), some (.int v5)]) rfl ?_
        refine r_iinc dX12_watch_81 (Nat.le_of_ble_eq_true rfl) rfl (v := v5 + 1) rfl (ls2 := [some (.ref 47), some (.int v1), some (.int v2), some (.int v3), some (.int (v4 ||| 0)), some (.int (v5 + 1))]) rfl ?_
        refine r_goto dX12_watch_84 (tgt := 44) rfl ?_
        exact ih v2 v3 (v4 ||| 0) (v5 + 1) u3
      · refine r_aload_n dX12_watch_64 rfl ?_
        refine r_aload_n dX12_watch_65 rfl ?_
        refine r_get 47 15 flX12_49 rfl (v := .ref 55) rfl dX12_watch_66 ?_
        refine r_iload dX12_watch_69 rfl ?_
        refine c_VI (As := [.ref 55, .int v5]) kvX12_340 rfl (by decide) (okX12_seen 55 v5 u3) rfl (Nat.le_of_ble_eq_true rfl) rfl dX12_watch_71 (fun r4 u4 => ?_)
        refine r_goto dX12_watch_74 (tgt := 78) rfl ?_
        refine r_ior dX12_watch_78 ?_
        refine r_istore dX12_watch_79 (Nat.le_of_ble_eq_true rfl) (ls2 := [some (.ref 47), some (.int v1), some (.int v2), some (.int v3), some (.int (v4 ||| r4)), some (.int v5)]) rfl ?_
        refine r_iinc dX12_watch_81 (Nat.le_of_ble_eq_true rfl) rfl (v := v5 + 1) rfl (ls2 := [some (.ref 47), some (.int v1), some (.int v2), some (.int v3), some (.int (v4 ||| r4)), some (.int (v5 + 1))]) rfl ?_
        refine r_goto dX12_watch_84 (tgt := 44) rfl ?_
        exact ih v2 v3 (v4 ||| r4) (v5 + 1) u4
def fX12_watch_28 (v1 : Int32) : Nat → Int32 → Int32 → US → Option (Int32 × US)
  | 0, _, _, _ => none
  | n + 1, v2, v3, u => (if (1 <<< ((gI u 47 7) &&& 31)) ≤ v3 then (if 0 ≤ v2 then nx (sI u 47 1 0) fun u1 => oV (fX12_enters ((v2 : Int32).toInt64) u1) fun u2 => oB (fJ6_bitCount_0f7a4 v2 u2) fun r3 u3 => some (r3, u3) else some ((-2), u)) else fX12_watch_44 v1 (fX12_watch_28 v1 n) FU v2 v3 0 0 u)
set_option maxRecDepth 20000 in
theorem sX12_watch_28 (v1 : Int32) : ∀ (n : Nat) (v2 : Int32) (v3 : Int32) (u : US), Sim tI mX12_watch 10 (fX12_watch_28 v1 n v2 v3 u) 28 [some (.ref 47), some (.int v1), some (.int v2), some (.int v3), none, none] [] u := by
  intro n
  induction n with
  | zero =>
    intro v2 v3 u
    rw [fX12_watch_28.eq_1]
    exact r_none
  | succ n ih =>
    intro v2 v3 u
    rw [fX12_watch_28.eq_2]
    refine r_iload_n dX12_watch_28 rfl ?_
    refine r_iconst dX12_watch_29 (v := 1) rfl ?_
    refine r_aload_n dX12_watch_30 rfl ?_
    refine r_get 47 7 flX12_150 rfl (v := .int (gI u 47 7)) rfl dX12_watch_31 ?_
    refine r_ishl dX12_watch_34 ?_
    refine r_icmp_ge dX12_watch_35 (tgt := 135) rfl ?_ ?_
    · refine r_iload_n dX12_watch_135 rfl ?_
      refine r_if_ge dX12_watch_136 (tgt := 142) rfl ?_ ?_
      · refine r_aload_n dX12_watch_142 rfl ?_
        refine r_iconst dX12_watch_143 (v := 0) rfl ?_
        refine r_put 47 1 fpX12_15 rfl rfl dX12_watch_144 (r_nx (fun u1 => ?_))
        refine r_aload_n dX12_watch_147 rfl ?_
        refine r_iload_n dX12_watch_148 rfl ?_
        refine r_i2l dX12_watch_149 ?_
        refine c_VV (As := [.long ((v2 : Int32).toInt64)]) kvX12_387 rfl (by decide) (okX12_enters ((v2 : Int32).toInt64) u1) rfl (Nat.le_of_ble_eq_true rfl) rfl dX12_watch_150 (fun u2 => ?_)
        refine r_iload_n dX12_watch_153 rfl ?_
        refine c_SI (As := [.int v2]) ksX12_300 (by decide) (okJ6_bitCount_0f7a4 v2 u2) rfl (Nat.le_of_ble_eq_true rfl) rfl dX12_watch_154 (fun r3 u3 => ?_)
        exact r_ireturn rfl dX12_watch_157
      · refine r_bipush dX12_watch_139 (v := -2) rfl ?_
        exact r_ireturn rfl dX12_watch_141
    · refine r_iconst dX12_watch_38 (v := 0) rfl ?_
      refine r_istore dX12_watch_39 (Nat.le_of_ble_eq_true rfl) (ls2 := [some (.ref 47), some (.int v1), some (.int v2), some (.int v3), some (.int 0), none]) rfl ?_
      refine r_iconst dX12_watch_41 (v := 0) rfl ?_
      refine r_istore dX12_watch_42 (Nat.le_of_ble_eq_true rfl) (ls2 := [some (.ref 47), some (.int v1), some (.int v2), some (.int v3), some (.int 0), some (.int 0)]) rfl ?_
      exact sX12_watch_44 v1 (fX12_watch_28 v1 n) ih FU v2 v3 0 0 u
def fX12_watch (v1 : Int32) (u : US) : Option (Int32 × US) :=
  nx (sI u 47 0 0) fun u1 => oB (fX12_all (gI u1 47 5) u1) fun r2 u2 => oB (fX12_in ((v1 : Int32).toInt64) 0 ((r2 : Int32).toInt64) u2) fun r3 u3 => (if r3 = 0 then some ((-1), u3) else fX12_watch_28 v1 FU (-1) 0 u3)
set_option maxRecDepth 20000 in
theorem sX12_watch (v1 : Int32) (u : US) : Sim tI mX12_watch 10 (fX12_watch v1 u) 0 [some (.ref 47), some (.int v1), none, none, none, none] [] u := by
  unfold fX12_watch
  refine r_aload_n dX12_watch_0 rfl ?_
  refine r_iconst dX12_watch_1 (v := 0) rfl ?_
  refine r_put 47 0 fpX12_3 rfl rfl dX12_watch_2 (r_nx (fun u1 => ?_))
  refine r_iload_n dX12_watch_5 rfl ?_
  refine r_i2l dX12_watch_6 ?_
  refine r_lconst dX12_watch_7 (v := 0) rfl ?_
  refine r_aload_n dX12_watch_8 rfl ?_
  refine r_get 47 5 flX12_140 rfl (v := .int (gI u1 47 5)) rfl dX12_watch_9 ?_
  refine c_SI (As := [.int (gI u1 47 5)]) ksX12_410 (by decide) (okX12_all (gI u1 47 5) u1) rfl (Nat.le_of_ble_eq_true rfl) rfl dX12_watch_12 (fun r2 u2 => ?_)
  refine r_i2l dX12_watch_15 ?_
  refine c_SI (As := [.long ((v1 : Int32).toInt64), .long 0, .long ((r2 : Int32).toInt64)]) ksX12_143 (by decide) (okX12_in ((v1 : Int32).toInt64) 0 ((r2 : Int32).toInt64) u2) rfl (Nat.le_of_ble_eq_true rfl) rfl dX12_watch_16 (fun r3 u3 => ?_)
  refine r_if_ne dX12_watch_19 (tgt := 24) rfl ?_ ?_
  · refine r_iconst dX12_watch_24 (v := -1) rfl ?_
    refine r_istore_n dX12_watch_25 (Nat.le_of_ble_eq_true rfl) (ls2 := [some (.ref 47), some (.int v1), some (.int (-1)), none, none, none]) rfl ?_
    refine r_iconst dX12_watch_26 (v := 0) rfl ?_
    refine r_istore_n dX12_watch_27 (Nat.le_of_ble_eq_true rfl) (ls2 := [some (.ref 47), some (.int v1), some (.int (-1)), some (.int 0), none, none]) rfl ?_
    exact sX12_watch_28 v1 FU (-1) 0 u3
  · refine r_iconst dX12_watch_22 (v := -1) rfl ?_
    exact r_ireturn rfl dX12_watch_23
theorem okX12_watch (v1 : Int32) (u : US) : ∀ r, fX12_watch v1 u = some r → MetC mX12_watch 10 [.ref 47, .int v1] u (tI r) :=
  met_of (by decide +kernel) (Nat.le_of_ble_eq_true rfl) rfl (sX12_watch v1 u)
def fX12_watched (v1 : Int32) (v2 : Int32) (v3 : Int32) (u : US) : Option (Int32 × US) :=
  nx (sI u 47 0 0) fun u1 => oB (fX12_isBeing v1 v2 u1) fun r2 u2 => (if r2 = 0 then some ((-1), u2) else oB (fX12_in ((v3 : Int32).toInt64) 0 1 u2) fun r3 u3 => (if r3 = 0 then some ((-1), u3) else (if (gI u3 47 43) = 12 then some ((-1), u3) else gd (inb (gI u3 47 43) 12) (nx (sA u3 74 (gI u3 47 43) v1) fun u4 => gd (inb (gI u4 47 43) 12) (nx (sA u4 75 (gI u4 47 43) v2) fun u5 => gd (inb (gI u5 47 43) 12) (nx (sA u5 76 (gI u5 47 43) v3) fun u6 => nx (sI u6 47 43 ((gI u6 47 43) + 1)) fun u7 => some (gI u7 47 43, u7)))))))
set_option maxRecDepth 20000 in
theorem sX12_watched (v1 : Int32) (v2 : Int32) (v3 : Int32) (u : US) : Sim tI mX12_watched 2 (fX12_watched v1 v2 v3 u) 0 [some (.ref 47), some (.int v1), some (.int v2), some (.int v3)] [] u := by
  unfold fX12_watched
  refine r_aload_n dX12_watched_0 rfl ?_
  refine r_iconst dX12_watched_1 (v := 0) rfl ?_
  refine r_put 47 0 fpX12_3 rfl rfl dX12_watched_2 (r_nx (fun u1 => ?_))
  refine r_aload_n dX12_watched_5 rfl ?_
  refine r_iload_n dX12_watched_6 rfl ?_
  refine r_iload_n dX12_watched_7 rfl ?_
  refine c_VI (As := [.int v1, .int v2]) kvX12_421 rfl (by decide) (okX12_isBeing v1 v2 u1) rfl (Nat.le_of_ble_eq_true rfl) rfl dX12_watched_8 (fun r2 u2 => ?_)
  refine r_if_eq dX12_watched_11 (tgt := 33) rfl ?_ ?_
  · refine r_iconst dX12_watched_33 (v := -1) rfl ?_
    exact r_ireturn rfl dX12_watched_34
  · refine r_iload_n dX12_watched_14 rfl ?_
    refine r_i2l dX12_watched_15 ?_
    refine r_lconst dX12_watched_16 (v := 0) rfl ?_
    refine r_lconst dX12_watched_17 (v := 1) rfl ?_
    refine c_SI (As := [.long ((v3 : Int32).toInt64), .long 0, .long 1]) ksX12_143 (by decide) (okX12_in ((v3 : Int32).toInt64) 0 1 u2) rfl (Nat.le_of_ble_eq_true rfl) rfl dX12_watched_18 (fun r3 u3 => ?_)
    refine r_if_eq dX12_watched_21 (tgt := 33) rfl ?_ ?_
    · refine r_iconst dX12_watched_33 (v := -1) rfl ?_
      exact r_ireturn rfl dX12_watched_34
    · refine r_aload_n dX12_watched_24 rfl ?_
      refine r_get 47 43 flX12_212 rfl (v := .int (gI u3 47 43)) rfl dX12_watched_25 ?_
      refine r_bipush dX12_watched_28 (v := 12) rfl ?_
      refine r_icmp_ne dX12_watched_30 (tgt := 35) rfl ?_ ?_
      · refine r_aload_n dX12_watched_35 rfl ?_
        refine r_get 47 44 flX12_107 rfl (v := .ref 74) rfl dX12_watched_36 ?_
        refine r_aload_n dX12_watched_39 rfl ?_
        refine r_get 47 43 flX12_212 rfl (v := .int (gI u3 47 43)) rfl dX12_watched_40 ?_
        refine r_iload_n dX12_watched_43 rfl ?_
        refine r_iast 74 rfl dX12_watched_44 (r_nx (fun u4 => ?_))
        refine r_aload_n dX12_watched_45 rfl ?_
        refine r_get 47 45 flX12_110 rfl (v := .ref 75) rfl dX12_watched_46 ?_
        refine r_aload_n dX12_watched_49 rfl ?_
        refine r_get 47 43 flX12_212 rfl (v := .int (gI u4 47 43)) rfl dX12_watched_50 ?_
        refine r_iload_n dX12_watched_53 rfl ?_
        refine r_iast 75 rfl dX12_watched_54 (r_nx (fun u5 => ?_))
        refine r_aload_n dX12_watched_55 rfl ?_
        refine r_get 47 46 flX12_113 rfl (v := .ref 76) rfl dX12_watched_56 ?_
        refine r_aload_n dX12_watched_59 rfl ?_
        refine r_get 47 43 flX12_212 rfl (v := .int (gI u5 47 43)) rfl dX12_watched_60 ?_
        refine r_iload_n dX12_watched_63 rfl ?_
        refine r_iast 76 rfl dX12_watched_64 (r_nx (fun u6 => ?_))
        refine r_aload_n dX12_watched_65 rfl ?_
        refine r_dup dX12_watched_66 rfl ?_
        refine r_get 47 43 flX12_212 rfl (v := .int (gI u6 47 43)) rfl dX12_watched_67 ?_
        refine r_iconst dX12_watched_70 (v := 1) rfl ?_
        refine r_iadd dX12_watched_71 ?_
        refine r_put 47 43 fpX12_212 rfl rfl dX12_watched_72 (r_nx (fun u7 => ?_))
        refine r_aload_n dX12_watched_75 rfl ?_
        refine r_get 47 43 flX12_212 rfl (v := .int (gI u7 47 43)) rfl dX12_watched_76 ?_
        exact r_ireturn rfl dX12_watched_79
      · refine r_iconst dX12_watched_33 (v := -1) rfl ?_
        exact r_ireturn rfl dX12_watched_34
theorem okX12_watched (v1 : Int32) (v2 : Int32) (v3 : Int32) (u : US) : ∀ r, fX12_watched v1 v2 v3 u = some r → MetC mX12_watched 2 [.ref 47, .int v1, .int v2, .int v3] u (tI r) :=
  met_of (by decide +kernel) (Nat.le_of_ble_eq_true rfl) rfl (sX12_watched v1 v2 v3 u)
def fX12_years_150 (v1 : Int32) (v2 : Int32) (k33 : Int32 → Int32 → US → Option (Int32 × US)) : Nat → Int32 → Int32 → Int32 → US → Option (Int32 × US)
  | 0, _, _, _, _ => none
  | n + 1, v3, v4, v6, u => (if (gI u 47 7) ≤ v6 then k33 v3 (v4 + 1) u else oB (fX12_seen 56 v6 u) fun r1 u1 => oB (fJ6_bitCount_0f7a4 r1 u1) fun r2 u2 => fX12_years_150 v1 v2 k33 n (v3 + r2) v4 (v6 + 1) u2)
set_option maxRecDepth 20000 in
theorem sX12_years_150 (v1 : Int32) (v2 : Int32) (k33 : Int32 → Int32 → US → Option (Int32 × US)) (hk33 : ∀ (v3 : Int32) (v4 : Int32) (u : US), Sim tI mX12_years 10 (k33 v3 v4 u) 33 [some (.ref 47), some (.int v1), some (.int v2), some (.int v3), some (.int v4), none, none] [] u) : ∀ (n : Nat) (v3 : Int32) (v4 : Int32) (v6 : Int32) (u : US), Sim tI mX12_years 10 (fX12_years_150 v1 v2 k33 n v3 v4 v6 u) 150 [some (.ref 47), some (.int v1), some (.int v2), some (.int v3), some (.int v4), none, some (.int v6)] [] u := by
  intro n
  induction n with
  | zero =>
    intro v3 v4 v6 u
    rw [fX12_years_150.eq_1]
    exact r_none
  | succ n ih =>
    intro v3 v4 v6 u
    rw [fX12_years_150.eq_2]
    refine r_iload dX12_years_150 rfl ?_
    refine r_aload_n dX12_years_152 rfl ?_
    refine r_get 47 7 flX12_150 rfl (v := .int (gI u 47 7)) rfl dX12_years_153 ?_
    refine r_icmp_ge dX12_years_156 (tgt := 181) rfl ?_ ?_
    · refine r_iinc dX12_years_181 (Nat.le_of_ble_eq_true rfl) rfl (v := v4 + 1) rfl (ls2 := [some (.ref 47), some (.int v1), some (.int v2), some (.int v3), some (.int (v4 + 1)), none, some (.int v6)]) rfl ?_
      refine r_goto dX12_years_184 (tgt := 33) rfl ?_
      refine r_mk [true, true, true, true, true, false, false] (ls2 := [some (.ref 47), some (.int v1), some (.int v2), some (.int v3), some (.int (v4 + 1)), none, none]) rfl ?_
      exact hk33 v3 (v4 + 1) u
    · refine r_iload_n dX12_years_159 rfl ?_
      refine r_aload_n dX12_years_160 rfl ?_
      refine r_aload_n dX12_years_161 rfl ?_
      refine r_get 47 16 flX12_52 rfl (v := .ref 56) rfl dX12_years_162 ?_
      refine r_iload dX12_years_165 rfl ?_
      refine c_VI (As := [.ref 56, .int v6]) kvX12_340 rfl (by decide) (okX12_seen 56 v6 u) rfl (Nat.le_of_ble_eq_true rfl) rfl dX12_years_167 (fun r1 u1 => ?_)
      refine c_SI (As := [.int r1]) ksX12_300 (by decide) (okJ6_bitCount_0f7a4 r1 u1) rfl (Nat.le_of_ble_eq_true rfl) rfl dX12_years_170 (fun r2 u2 => ?_)
      refine r_iadd dX12_years_173 ?_
      refine r_istore_n dX12_years_174 (Nat.le_of_ble_eq_true rfl) (ls2 := [some (.ref 47), some (.int v1), some (.int v2), some (.int (v3 + r2)), some (.int v4), none, some (.int v6)]) rfl ?_
      refine r_iinc dX12_years_175 (Nat.le_of_ble_eq_true rfl) rfl (v := v6 + 1) rfl (ls2 := [some (.ref 47), some (.int v1), some (.int v2), some (.int (v3 + r2)), some (.int v4), none, some (.int (v6 + 1))]) rfl ?_
      refine r_goto dX12_years_178 (tgt := 150) rfl ?_
      exact ih (v3 + r2) v4 (v6 + 1) u2
def fX12_years_114 (v1 : Int32) (v2 : Int32) (k33 : Int32 → Int32 → US → Option (Int32 × US)) (v3 : Int32) (v4 : Int32) (v5 : Int32) (u : US) : Option (Int32 × US) :=
  (if v5 = 3 then (if (gI u 47 6) ≤ 0 then fX12_years_150 v1 v2 k33 FU v3 v4 0 u else gd (inb 24 26) (oB (fX12_draws (gI u 47 6) u) fun r1 u1 => gd (inb 24 26) (nx (sA u1 56 24 ((gA u 56 24) ||| (1 <<< (r1 &&& 31)))) fun u2 => fX12_years_150 v1 v2 k33 FU v3 v4 0 u2))) else fX12_years_150 v1 v2 k33 FU v3 v4 0 u)
set_option maxRecDepth 20000 in
theorem sX12_years_114 (v1 : Int32) (v2 : Int32) (k33 : Int32 → Int32 → US → Option (Int32 × US)) (hk33 : ∀ (v3 : Int32) (v4 : Int32) (u : US), Sim tI mX12_years 10 (k33 v3 v4 u) 33 [some (.ref 47), some (.int v1), some (.int v2), some (.int v3), some (.int v4), none, none] [] u) (v3 : Int32) (v4 : Int32) (v5 : Int32) (u : US) : Sim tI mX12_years 10 (fX12_years_114 v1 v2 k33 v3 v4 v5 u) 114 [some (.ref 47), some (.int v1), some (.int v2), some (.int v3), some (.int v4), some (.int v5), none] [] u := by
  unfold fX12_years_114
  refine r_iload dX12_years_114 rfl ?_
  refine r_iconst dX12_years_116 (v := 3) rfl ?_
  refine r_icmp_ne dX12_years_117 (tgt := 147) rfl ?_ ?_
  · refine r_iconst dX12_years_147 (v := 0) rfl ?_
    refine r_istore dX12_years_148 (Nat.le_of_ble_eq_true rfl) (ls2 := [some (.ref 47), some (.int v1), some (.int v2), some (.int v3), some (.int v4), some (.int v5), some (.int 0)]) rfl ?_
    refine r_mk [true, true, true, true, true, false, true] (ls2 := [some (.ref 47), some (.int v1), some (.int v2), some (.int v3), some (.int v4), none, some (.int 0)]) rfl ?_
    exact sX12_years_150 v1 v2 k33 hk33 FU v3 v4 0 u
  · refine r_aload_n dX12_years_120 rfl ?_
    refine r_get 47 6 flX12_147 rfl (v := .int (gI u 47 6)) rfl dX12_years_121 ?_
    refine r_if_le dX12_years_124 (tgt := 147) rfl ?_ ?_
    · refine r_iconst dX12_years_147 (v := 0) rfl ?_
      refine r_istore dX12_years_148 (Nat.le_of_ble_eq_true rfl) (ls2 := [some (.ref 47), some (.int v1), some (.int v2), some (.int v3), some (.int v4), some (.int v5), some (.int 0)]) rfl ?_
      refine r_mk [true, true, true, true, true, false, true] (ls2 := [some (.ref 47), some (.int v1), some (.int v2), some (.int v3), some (.int v4), none, some (.int 0)]) rfl ?_
      exact sX12_years_150 v1 v2 k33 hk33 FU v3 v4 0 u
    · refine r_aload_n dX12_years_127 rfl ?_
      refine r_get 47 16 flX12_52 rfl (v := .ref 56) rfl dX12_years_128 ?_
      refine r_bipush dX12_years_131 (v := 24) rfl ?_
      refine r_dup2 dX12_years_133 rfl rfl ?_
      refine r_iald 56 rfl dX12_years_134 ?_
      refine r_iconst dX12_years_135 (v := 1) rfl ?_
      refine r_aload_n dX12_years_136 rfl ?_
      refine r_aload_n dX12_years_137 rfl ?_
      refine r_get 47 6 flX12_147 rfl (v := .int (gI u 47 6)) rfl dX12_years_138 ?_
      refine c_VI (As := [.int (gI u 47 6)]) kvX12_456 rfl (by decide) (okX12_draws (gI u 47 6) u) rfl (Nat.le_of_ble_eq_true rfl) rfl dX12_years_141 (fun r1 u1 => ?_)
      refine r_ishl dX12_years_144 ?_
      refine r_ior dX12_years_145 ?_
      refine r_iast 56 rfl dX12_years_146 (r_nx (fun u2 => ?_))
      refine r_iconst dX12_years_147 (v := 0) rfl ?_
      refine r_istore dX12_years_148 (Nat.le_of_ble_eq_true rfl) (ls2 := [some (.ref 47), some (.int v1), some (.int v2), some (.int v3), some (.int v4), some (.int v5), some (.int 0)]) rfl ?_
      refine r_mk [true, true, true, true, true, false, true] (ls2 := [some (.ref 47), some (.int v1), some (.int v2), some (.int v3), some (.int v4), none, some (.int 0)]) rfl ?_
      exact sX12_years_150 v1 v2 k33 hk33 FU v3 v4 0 u2
def fX12_years_33 (v1 : Int32) (v2 : Int32) : Nat → Int32 → Int32 → US → Option (Int32 × US)
  | 0, _, _, _ => none
  | n + 1, v3, v4, u => (if v2 ≤ v4 then nx (sI u 47 1 0) fun u1 => gd (inb 25 26) (oV (fX12_enters ((gA u1 56 25 : Int32).toInt64) u1) fun u2 => gd (inb 24 26) (oB (fJ6_bitCount_0f7a4 (gA u2 56 24) u2) fun r3 u3 => oV (fX12_enters ((r3 : Int32).toInt64) u3) fun u4 => some (v3, u4))) else oB (fX12_draws 4 u) fun r5 u5 => (if (2 : Int32) ≤ r5 then (if r5 = 2 then (if (gI u5 47 6) ≤ 0 then fX12_years_114 v1 v2 (fX12_years_33 v1 v2 n) v3 v4 r5 u5 else (if (gI u5 47 7) ≤ 0 then fX12_years_114 v1 v2 (fX12_years_33 v1 v2 n) v3 v4 r5 u5 else oB (fX12_draws (gI u5 47 6) u5) fun r6 u6 => oB (fX12_draws (gI u6 47 7) u6) fun r7 u7 => gd (inb (16 + r6) 26) (nx (sA u7 56 (16 + r6) r7) fun u8 => fX12_years_150 v1 v2 (fX12_years_33 v1 v2 n) FU v3 v4 0 u8))) else fX12_years_114 v1 v2 (fX12_years_33 v1 v2 n) v3 v4 r5 u5) else oV (fX12_hourGoes 56 u5) fun u9 => fX12_years_150 v1 v2 (fX12_years_33 v1 v2 n) FU v3 v4 0 u9))
set_option maxRecDepth 20000 in
theorem sX12_years_33 (v1 : Int32) (v2 : Int32) : ∀ (n : Nat) (v3 : Int32) (v4 : Int32) (u : US), Sim tI mX12_years 10 (fX12_years_33 v1 v2 n v3 v4 u) 33 [some (.ref 47), some (.int v1), some (.int v2), some (.int v3), some (.int v4), none, none] [] u := by
  intro n
  induction n with
  | zero =>
    intro v3 v4 u
    rw [fX12_years_33.eq_1]
    exact r_none
  | succ n ih =>
    intro v3 v4 u
    rw [fX12_years_33.eq_2]
    refine r_iload dX12_years_33 rfl ?_
    refine r_iload_n dX12_years_35 rfl ?_
    refine r_icmp_ge dX12_years_36 (tgt := 187) rfl ?_ ?_
    · refine r_aload_n dX12_years_187 rfl ?_
      refine r_iconst dX12_years_188 (v := 0) rfl ?_
      refine r_put 47 1 fpX12_15 rfl rfl dX12_years_189 (r_nx (fun u1 => ?_))
      refine r_aload_n dX12_years_192 rfl ?_
      refine r_aload_n dX12_years_193 rfl ?_
      refine r_get 47 16 flX12_52 rfl (v := .ref 56) rfl dX12_years_194 ?_
      refine r_bipush dX12_years_197 (v := 25) rfl ?_
      refine r_iald 56 rfl dX12_years_199 ?_
      refine r_i2l dX12_years_200 ?_
      refine c_VV (As := [.long ((gA u1 56 25 : Int32).toInt64)]) kvX12_387 rfl (by decide) (okX12_enters ((gA u1 56 25 : Int32).toInt64) u1) rfl (Nat.le_of_ble_eq_true rfl) rfl dX12_years_201 (fun u2 => ?_)
      refine r_aload_n dX12_years_204 rfl ?_
      refine r_aload_n dX12_years_205 rfl ?_
      refine r_get 47 16 flX12_52 rfl (v := .ref 56) rfl dX12_years_206 ?_
      refine r_bipush dX12_years_209 (v := 24) rfl ?_
      refine r_iald 56 rfl dX12_years_211 ?_
      refine c_SI (As := [.int (gA u2 56 24)]) ksX12_300 (by decide) (okJ6_bitCount_0f7a4 (gA u2 56 24) u2) rfl (Nat.le_of_ble_eq_true rfl) rfl dX12_years_212 (fun r3 u3 => ?_)
      refine r_i2l dX12_years_215 ?_
      refine c_VV (As := [.long ((r3 : Int32).toInt64)]) kvX12_387 rfl (by decide) (okX12_enters ((r3 : Int32).toInt64) u3) rfl (Nat.le_of_ble_eq_true rfl) rfl dX12_years_216 (fun u4 => ?_)
      refine r_iload_n dX12_years_219 rfl ?_
      exact r_ireturn rfl dX12_years_220
    · refine r_aload_n dX12_years_39 rfl ?_
      refine r_iconst dX12_years_40 (v := 4) rfl ?_
      refine c_VI (As := [.int 4]) kvX12_456 rfl (by decide) (okX12_draws 4 u) rfl (Nat.le_of_ble_eq_true rfl) rfl dX12_years_41 (fun r5 u5 => ?_)
      refine r_istore dX12_years_44 (Nat.le_of_ble_eq_true rfl) (ls2 := [some (.ref 47), some (.int v1), some (.int v2), some (.int v3), some (.int v4), some (.int r5), none]) rfl ?_
      refine r_iload dX12_years_46 rfl ?_
      refine r_iconst dX12_years_48 (v := 2) rfl ?_
      refine r_icmp_ge dX12_years_49 (tgt := 63) rfl ?_ ?_
      · refine r_iload dX12_years_63 rfl ?_
        refine r_iconst dX12_years_65 (v := 2) rfl ?_
        refine r_icmp_ne dX12_years_66 (tgt := 114) rfl ?_ ?_
        · exact sX12_years_114 v1 v2 (fX12_years_33 v1 v2 n) ih v3 v4 r5 u5
        · refine r_aload_n dX12_years_69 rfl ?_
          refine r_get 47 6 flX12_147 rfl (v := .int (gI u5 47 6)) rfl dX12_years_70 ?_
          refine r_if_le dX12_years_73 (tgt := 114) rfl ?_ ?_
          · exact sX12_years_114 v1 v2 (fX12_years_33 v1 v2 n) ih v3 v4 r5 u5
          · refine r_aload_n dX12_years_76 rfl ?_
            refine r_get 47 7 flX12_150 rfl (v := .int (gI u5 47 7)) rfl dX12_years_77 ?_
            refine r_if_le dX12_years_80 (tgt := 114) rfl ?_ ?_
            · exact sX12_years_114 v1 v2 (fX12_years_33 v1 v2 n) ih v3 v4 r5 u5
            · refine r_aload_n dX12_years_83 rfl ?_
              refine r_aload_n dX12_years_84 rfl ?_
              refine r_get 47 6 flX12_147 rfl (v := .int (gI u5 47 6)) rfl dX12_years_85 ?_
              refine c_VI (As := [.int (gI u5 47 6)]) kvX12_456 rfl (by decide) (okX12_draws (gI u5 47 6) u5) rfl (Nat.le_of_ble_eq_true rfl) rfl dX12_years_88 (fun r6 u6 => ?_)
              refine r_istore dX12_years_91 (Nat.le_of_ble_eq_true rfl) (ls2 := [some (.ref 47), some (.int v1), some (.int v2), some (.int v3), some (.int v4), some (.int r5), some (.int r6)]) rfl ?_
              refine r_aload_n dX12_years_93 rfl ?_
              refine r_get 47 16 flX12_52 rfl (v := .ref 56) rfl dX12_years_94 ?_
              refine r_bipush dX12_years_97 (v := 16) rfl ?_
              refine r_iload dX12_years_99 rfl ?_
              refine r_iadd dX12_years_101 ?_
              refine r_aload_n dX12_years_102 rfl ?_
              refine r_aload_n dX12_years_103 rfl ?_
              refine r_get 47 7 flX12_150 rfl (v := .int (gI u6 47 7)) rfl dX12_years_104 ?_
              refine c_VI (As := [.int (gI u6 47 7)]) kvX12_456 rfl (by decide) (okX12_draws (gI u6 47 7) u6) rfl (Nat.le_of_ble_eq_true rfl) rfl dX12_years_107 (fun r7 u7 => ?_)
              refine r_iast 56 rfl dX12_years_110 (r_nx (fun u8 => ?_))
              refine r_goto dX12_years_111 (tgt := 147) rfl ?_
              refine r_iconst dX12_years_147 (v := 0) rfl ?_
              refine r_istore dX12_years_148 (Nat.le_of_ble_eq_true rfl) (ls2 := [some (.ref 47), some (.int v1), some (.int v2), some (.int v3), some (.int v4), some (.int r5), some (.int 0)]) rfl ?_
              refine r_mk [true, true, true, true, true, false, true] (ls2 := [some (.ref 47), some (.int v1), some (.int v2), some (.int v3), some (.int v4), none, some (.int 0)]) rfl ?_
              exact sX12_years_150 v1 v2 (fX12_years_33 v1 v2 n) ih FU v3 v4 0 u8
      · refine r_aload_n dX12_years_52 rfl ?_
        refine r_aload_n dX12_years_53 rfl ?_
        refine r_get 47 16 flX12_52 rfl (v := .ref 56) rfl dX12_years_54 ?_
        refine c_VV (As := [.ref 56]) kvX12_360 rfl (by decide) (okX12_hourGoes 56 u5) rfl (Nat.le_of_ble_eq_true rfl) rfl dX12_years_57 (fun u9 => ?_)
        refine r_goto dX12_years_60 (tgt := 147) rfl ?_
        refine r_iconst dX12_years_147 (v := 0) rfl ?_
        refine r_istore dX12_years_148 (Nat.le_of_ble_eq_true rfl) (ls2 := [some (.ref 47), some (.int v1), some (.int v2), some (.int v3), some (.int v4), some (.int r5), some (.int 0)]) rfl ?_
        refine r_mk [true, true, true, true, true, false, true] (ls2 := [some (.ref 47), some (.int v1), some (.int v2), some (.int v3), some (.int v4), none, some (.int 0)]) rfl ?_
        exact sX12_years_150 v1 v2 (fX12_years_33 v1 v2 n) ih FU v3 v4 0 u9
def fX12_years (v1 : Int32) (v2 : Int32) (u : US) : Option (Int32 × US) :=
  nx (sI u 47 0 0) fun u1 => oB (fX12_in ((v2 : Int32).toInt64) 1 60 u1) fun r2 u2 => (if r2 = 0 then some ((-1), u2) else nx (sI u2 47 53 v1) fun u3 => oV (fX12_copies u3) fun u4 => fX12_years_33 v1 v2 FU 0 0 u4)
set_option maxRecDepth 20000 in
theorem sX12_years (v1 : Int32) (v2 : Int32) (u : US) : Sim tI mX12_years 10 (fX12_years v1 v2 u) 0 [some (.ref 47), some (.int v1), some (.int v2), none, none, none, none] [] u := by
  unfold fX12_years
  refine r_aload_n dX12_years_0 rfl ?_
  refine r_iconst dX12_years_1 (v := 0) rfl ?_
  refine r_put 47 0 fpX12_3 rfl rfl dX12_years_2 (r_nx (fun u1 => ?_))
  refine r_iload_n dX12_years_5 rfl ?_
  refine r_i2l dX12_years_6 ?_
  refine r_lconst dX12_years_7 (v := 1) rfl ?_
  refine r_ldc2 dX12_years_8 kJX12_385 ?_
  refine c_SI (As := [.long ((v2 : Int32).toInt64), .long 1, .long 60]) ksX12_143 (by decide) (okX12_in ((v2 : Int32).toInt64) 1 60 u1) rfl (Nat.le_of_ble_eq_true rfl) rfl dX12_years_11 (fun r2 u2 => ?_)
  refine r_if_ne dX12_years_14 (tgt := 19) rfl ?_ ?_
  · refine r_aload_n dX12_years_19 rfl ?_
    refine r_iload_n dX12_years_20 rfl ?_
    refine r_put 47 53 fpX12_452 rfl rfl dX12_years_21 (r_nx (fun u3 => ?_))
    refine r_aload_n dX12_years_24 rfl ?_
    refine c_VV (As := []) kvX12_407 rfl (by decide) (okX12_copies u3) rfl (Nat.le_of_ble_eq_true rfl) rfl dX12_years_25 (fun u4 => ?_)
    refine r_iconst dX12_years_28 (v := 0) rfl ?_
    refine r_istore_n dX12_years_29 (Nat.le_of_ble_eq_true rfl) (ls2 := [some (.ref 47), some (.int v1), some (.int v2), some (.int 0), none, none, none]) rfl ?_
    refine r_iconst dX12_years_30 (v := 0) rfl ?_
    refine r_istore dX12_years_31 (Nat.le_of_ble_eq_true rfl) (ls2 := [some (.ref 47), some (.int v1), some (.int v2), some (.int 0), some (.int 0), none, none]) rfl ?_
    exact sX12_years_33 v1 v2 FU 0 0 u4
  · refine r_iconst dX12_years_17 (v := -1) rfl ?_
    exact r_ireturn rfl dX12_years_18
theorem okX12_years (v1 : Int32) (v2 : Int32) (u : US) : ∀ r, fX12_years v1 v2 u = some r → MetC mX12_years 10 [.ref 47, .int v1, .int v2] u (tI r) :=
  met_of (by decide +kernel) (Nat.le_of_ble_eq_true rfl) rfl (sX12_years v1 v2 u)
