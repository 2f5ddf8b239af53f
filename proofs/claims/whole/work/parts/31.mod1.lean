def fX12_readsAct_127 (v1 : Int32) (u : US) : Option (Int32 × US) :=
  gd (inb v1 60) ((if (gA u 67 v1) < 0 then some (0, u) else some (1, u)))
set_option maxRecDepth 20000 in
theorem sX12_readsAct_127 (v1 : Int32) (u : US) : Sim tI mX12_readsAct 7 (fX12_readsAct_127 v1 u) 127 [some (.ref 47), some (.int v1), none] [] u := by
  unfold fX12_readsAct_127
  refine r_aload_n dX12_readsAct_127 rfl ?_
  refine r_get 47 35 flX12_85 rfl (v := .ref 67) rfl dX12_readsAct_128 ?_
  refine r_iload_n dX12_readsAct_131 rfl ?_
  refine r_iald 67 rfl dX12_readsAct_132 ?_
  refine r_if_lt dX12_readsAct_133 (tgt := 140) rfl ?_ ?_
  · refine r_iconst dX12_readsAct_140 (v := 0) rfl ?_
    exact r_zreturn0 rfl dX12_readsAct_141
  · refine r_iconst dX12_readsAct_136 (v := 1) rfl ?_
    refine r_goto dX12_readsAct_137 (tgt := 141) rfl ?_
    exact r_zreturn1 rfl dX12_readsAct_141
def fX12_readsAct_177 (v1 : Int32) (s1 : Int32) (s2 : Int32) (u : US) : Option (Int32 × US) :=
  gd (inb s1 60) (nx (sA u 69 s1 s2) fun u1 => gd (inb v1 60) ((if (gA u1 69 v1) < 0 then some (0, u1) else some (1, u1))))
set_option maxRecDepth 20000 in
theorem sX12_readsAct_177 (v1 : Int32) (s1 : Int32) (s2 : Int32) (u : US) : Sim tI mX12_readsAct 7 (fX12_readsAct_177 v1 s1 s2 u) 177 [some (.ref 47), some (.int v1), none] [.int s2, .int s1, .ref 69] u := by
  unfold fX12_readsAct_177
  refine r_iast 69 rfl dX12_readsAct_177 (r_nx (fun u1 => ?_))
  refine r_aload_n dX12_readsAct_178 rfl ?_
  refine r_get 47 37 flX12_91 rfl (v := .ref 69) rfl dX12_readsAct_179 ?_
  refine r_iload_n dX12_readsAct_182 rfl ?_
  refine r_iald 69 rfl dX12_readsAct_183 ?_
  refine r_if_lt dX12_readsAct_184 (tgt := 191) rfl ?_ ?_
  · refine r_iconst dX12_readsAct_191 (v := 0) rfl ?_
    exact r_zreturn0 rfl dX12_readsAct_192
  · refine r_iconst dX12_readsAct_187 (v := 1) rfl ?_
    refine r_goto dX12_readsAct_188 (tgt := 192) rfl ?_
    exact r_zreturn1 rfl dX12_readsAct_192
def fX12_readsAct_107 (v1 : Int32) (s1 : Int32) (s2 : Int32) (u : US) : Option (Int32 × US) :=
  gd (inb s1 60) (nx (sA u 67 s1 s2) fun u1 => gd (inb v1 60) ((if (gA u1 67 v1) < 0 then fX12_readsAct_127 v1 u1 else gd (inb v1 60) ((if (gA u1 65 v1) = 4 then oB (fX12_number 1 u1) fun r2 u2 => gd (inb v1 60) (nx (sA u2 68 v1 r2) fun u3 => gd (inb v1 60) ((if 0 ≤ (gA u3 68 v1) then oB (fX12_takesOf 101 u3) fun r4 u4 => fX12_readsAct_177 v1 v1 r4 u4 else fX12_readsAct_177 v1 v1 (-1) u3))) else fX12_readsAct_127 v1 u1)))))
set_option maxRecDepth 20000 in
theorem sX12_readsAct_107 (v1 : Int32) (s1 : Int32) (s2 : Int32) (u : US) : Sim tI mX12_readsAct 7 (fX12_readsAct_107 v1 s1 s2 u) 107 [some (.ref 47), some (.int v1), none] [.int s2, .int s1, .ref 67] u := by
  unfold fX12_readsAct_107
  refine r_iast 67 rfl dX12_readsAct_107 (r_nx (fun u1 => ?_))
  refine r_aload_n dX12_readsAct_108 rfl ?_
  refine r_get 47 35 flX12_85 rfl (v := .ref 67) rfl dX12_readsAct_109 ?_
  refine r_iload_n dX12_readsAct_112 rfl ?_
  refine r_iald 67 rfl dX12_readsAct_113 ?_
  refine r_if_lt dX12_readsAct_114 (tgt := 127) rfl ?_ ?_
  · exact sX12_readsAct_127 v1 u1
  · refine r_aload_n dX12_readsAct_117 rfl ?_
    refine r_get 47 33 flX12_79 rfl (v := .ref 65) rfl dX12_readsAct_118 ?_
    refine r_iload_n dX12_readsAct_121 rfl ?_
    refine r_iald 65 rfl dX12_readsAct_122 ?_
    refine r_iconst dX12_readsAct_123 (v := 4) rfl ?_
    refine r_icmp_eq dX12_readsAct_124 (tgt := 142) rfl ?_ ?_
    · refine r_aload_n dX12_readsAct_142 rfl ?_
      refine r_get 47 36 flX12_88 rfl (v := .ref 68) rfl dX12_readsAct_143 ?_
      refine r_iload_n dX12_readsAct_146 rfl ?_
      refine r_aload_n dX12_readsAct_147 rfl ?_
      refine r_iconst dX12_readsAct_148 (v := 1) rfl ?_
      refine c_VI (As := [.int 1]) kvX12_221 rfl (by decide) (okX12_number 1 u1) rfl (Nat.le_of_ble_eq_true rfl) rfl dX12_readsAct_149 (fun r2 u2 => ?_)
      refine r_iast 68 rfl dX12_readsAct_152 (r_nx (fun u3 => ?_))
      refine r_aload_n dX12_readsAct_153 rfl ?_
      refine r_get 47 37 flX12_91 rfl (v := .ref 69) rfl dX12_readsAct_154 ?_
      refine r_iload_n dX12_readsAct_157 rfl ?_
      refine r_aload_n dX12_readsAct_158 rfl ?_
      refine r_get 47 36 flX12_88 rfl (v := .ref 68) rfl dX12_readsAct_159 ?_
      refine r_iload_n dX12_readsAct_162 rfl ?_
      refine r_iald 68 rfl dX12_readsAct_163 ?_
      refine r_if_ge dX12_readsAct_164 (tgt := 171) rfl ?_ ?_
      · refine r_aload_n dX12_readsAct_171 rfl ?_
        refine r_ldcS 1 rfl rfl rfl dX12_readsAct_172 ?_
        refine c_VI (As := [.ref 101]) kvX12_203 rfl (by decide) (okX12_takesOf 101 u3) rfl (Nat.le_of_ble_eq_true rfl) rfl dX12_readsAct_174 (fun r4 u4 => ?_)
        exact sX12_readsAct_177 v1 v1 r4 u4
      · refine r_iconst dX12_readsAct_167 (v := -1) rfl ?_
        refine r_goto dX12_readsAct_168 (tgt := 177) rfl ?_
        exact sX12_readsAct_177 v1 v1 (-1) u3
    · exact sX12_readsAct_127 v1 u1
def fX12_readsAct_75 (v1 : Int32) (s0 : Int32) (u : US) : Option (Int32 × US) :=
  gd (inb v1 60) ((if 0 ≤ (gA u 66 v1) then (if s0 = 0 then fX12_readsAct_107 v1 v1 0 u else oB (fX12_number 1 u) fun r1 u1 => fX12_readsAct_107 v1 v1 r1 u1) else fX12_readsAct_107 v1 v1 (-1) u))
set_option maxRecDepth 20000 in
theorem sX12_readsAct_75 (v1 : Int32) (s0 : Int32) (u : US) : Sim tI mX12_readsAct 7 (fX12_readsAct_75 v1 s0 u) 75 [some (.ref 47), some (.int v1), none] [.int s0] u := by
  unfold fX12_readsAct_75
  refine r_istore_n dX12_readsAct_75 (Nat.le_of_ble_eq_true rfl) (ls2 := [some (.ref 47), some (.int v1), some (.int s0)]) rfl ?_
  refine r_aload_n dX12_readsAct_76 rfl ?_
  refine r_get 47 35 flX12_85 rfl (v := .ref 67) rfl dX12_readsAct_77 ?_
  refine r_iload_n dX12_readsAct_80 rfl ?_
  refine r_aload_n dX12_readsAct_81 rfl ?_
  refine r_get 47 34 flX12_82 rfl (v := .ref 66) rfl dX12_readsAct_82 ?_
  refine r_iload_n dX12_readsAct_85 rfl ?_
  refine r_iald 66 rfl dX12_readsAct_86 ?_
  refine r_if_ge dX12_readsAct_87 (tgt := 94) rfl ?_ ?_
  · refine r_iload_n dX12_readsAct_94 rfl ?_
    refine r_if_eq dX12_readsAct_95 (tgt := 106) rfl ?_ ?_
    · refine r_iconst dX12_readsAct_106 (v := 0) rfl ?_
      refine r_mk [true, true, false] (ls2 := [some (.ref 47), some (.int v1), none]) rfl ?_
      exact sX12_readsAct_107 v1 v1 0 u
    · refine r_aload_n dX12_readsAct_98 rfl ?_
      refine r_iconst dX12_readsAct_99 (v := 1) rfl ?_
      refine c_VI (As := [.int 1]) kvX12_221 rfl (by decide) (okX12_number 1 u) rfl (Nat.le_of_ble_eq_true rfl) rfl dX12_readsAct_100 (fun r1 u1 => ?_)
      refine r_goto dX12_readsAct_103 (tgt := 107) rfl ?_
      refine r_mk [true, true, false] (ls2 := [some (.ref 47), some (.int v1), none]) rfl ?_
      exact sX12_readsAct_107 v1 v1 r1 u1
  · refine r_iconst dX12_readsAct_90 (v := -1) rfl ?_
    refine r_goto dX12_readsAct_91 (tgt := 107) rfl ?_
    refine r_mk [true, true, false] (ls2 := [some (.ref 47), some (.int v1), none]) rfl ?_
    exact sX12_readsAct_107 v1 v1 (-1) u
def fX12_readsAct_70 (v1 : Int32) (u : US) : Option (Int32 × US) :=
  fX12_readsAct_75 v1 1 u
set_option maxRecDepth 20000 in
theorem sX12_readsAct_70 (v1 : Int32) (u : US) : Sim tI mX12_readsAct 7 (fX12_readsAct_70 v1 u) 70 [some (.ref 47), some (.int v1), none] [] u := by
  unfold fX12_readsAct_70
  refine r_iconst dX12_readsAct_70 (v := 1) rfl ?_
  refine r_goto dX12_readsAct_71 (tgt := 75) rfl ?_
  exact sX12_readsAct_75 v1 1 u
def fX12_readsAct (u : US) : Option (Int32 × US) :=
  oB (fX12_takesOf 106 u) fun r1 u1 => gd (inb (gI u 47 38) 60) (nx (sA u1 65 (gI u 47 38) r1) fun u2 => nx (sI u2 47 38 ((gI u2 47 38) + 1)) fun u3 => gd (inb (gI u 47 38) 60) ((if 0 ≤ (gA u3 65 (gI u 47 38)) then oB (fX12_number 1 u3) fun r4 u4 => gd (inb (gI u 47 38) 60) (nx (sA u4 66 (gI u 47 38) r4) fun u5 => gd (inb (gI u 47 38) 60) ((if (gA u5 65 (gI u 47 38)) = 1 then fX12_readsAct_70 (gI u 47 38) u5 else gd (inb (gI u 47 38) 60) ((if (gA u5 65 (gI u 47 38)) = 4 then fX12_readsAct_70 (gI u 47 38) u5 else fX12_readsAct_75 (gI u 47 38) 0 u5))))) else some (0, u3))))
set_option maxRecDepth 20000 in
theorem sX12_readsAct (u : US) : Sim tI mX12_readsAct 7 (fX12_readsAct u) 0 [some (.ref 47), none, none] [] u := by
  unfold fX12_readsAct
  refine r_aload_n dX12_readsAct_0 rfl ?_
  refine r_get 47 38 flX12_391 rfl (v := .int (gI u 47 38)) rfl dX12_readsAct_1 ?_
  refine r_istore_n dX12_readsAct_4 (Nat.le_of_ble_eq_true rfl) (ls2 := [some (.ref 47), some (.int (gI u 47 38)), none]) rfl ?_
  refine r_aload_n dX12_readsAct_5 rfl ?_
  refine r_get 47 33 flX12_79 rfl (v := .ref 65) rfl dX12_readsAct_6 ?_
  refine r_iload_n dX12_readsAct_9 rfl ?_
  refine r_aload_n dX12_readsAct_10 rfl ?_
  refine r_ldcSw 6 rfl rfl rfl dX12_readsAct_11 ?_
  refine c_VI (As := [.ref 106]) kvX12_203 rfl (by decide) (okX12_takesOf 106 u) rfl (Nat.le_of_ble_eq_true rfl) rfl dX12_readsAct_14 (fun r1 u1 => ?_)
  refine r_iast 65 rfl dX12_readsAct_17 (r_nx (fun u2 => ?_))
  refine r_aload_n dX12_readsAct_18 rfl ?_
  refine r_dup dX12_readsAct_19 rfl ?_
  refine r_get 47 38 flX12_391 rfl (v := .int (gI u2 47 38)) rfl dX12_readsAct_20 ?_
  refine r_iconst dX12_readsAct_23 (v := 1) rfl ?_
  refine r_iadd dX12_readsAct_24 ?_
  refine r_put 47 38 fpX12_391 rfl rfl dX12_readsAct_25 (r_nx (fun u3 => ?_))
  refine r_aload_n dX12_readsAct_28 rfl ?_
  refine r_get 47 33 flX12_79 rfl (v := .ref 65) rfl dX12_readsAct_29 ?_
  refine r_iload_n dX12_readsAct_32 rfl ?_
  refine r_iald 65 rfl dX12_readsAct_33 ?_
  refine r_if_ge dX12_readsAct_34 (tgt := 39) rfl ?_ ?_
  · refine r_aload_n dX12_readsAct_39 rfl ?_
    refine r_get 47 34 flX12_82 rfl (v := .ref 66) rfl dX12_readsAct_40 ?_
    refine r_iload_n dX12_readsAct_43 rfl ?_
    refine r_aload_n dX12_readsAct_44 rfl ?_
    refine r_iconst dX12_readsAct_45 (v := 1) rfl ?_
    refine c_VI (As := [.int 1]) kvX12_221 rfl (by decide) (okX12_number 1 u3) rfl (Nat.le_of_ble_eq_true rfl) rfl dX12_readsAct_46 (fun r4 u4 => ?_)
    refine r_iast 66 rfl dX12_readsAct_49 (r_nx (fun u5 => ?_))
    refine r_aload_n dX12_readsAct_50 rfl ?_
    refine r_get 47 33 flX12_79 rfl (v := .ref 65) rfl dX12_readsAct_51 ?_
    refine r_iload_n dX12_readsAct_54 rfl ?_
    refine r_iald 65 rfl dX12_readsAct_55 ?_
    refine r_iconst dX12_readsAct_56 (v := 1) rfl ?_
    refine r_icmp_eq dX12_readsAct_57 (tgt := 70) rfl ?_ ?_
    · exact sX12_readsAct_70 (gI u 47 38) u5
    · refine r_aload_n dX12_readsAct_60 rfl ?_
      refine r_get 47 33 flX12_79 rfl (v := .ref 65) rfl dX12_readsAct_61 ?_
      refine r_iload_n dX12_readsAct_64 rfl ?_
      refine r_iald 65 rfl dX12_readsAct_65 ?_
      refine r_iconst dX12_readsAct_66 (v := 4) rfl ?_
      refine r_icmp_ne dX12_readsAct_67 (tgt := 74) rfl ?_ ?_
      · refine r_iconst dX12_readsAct_74 (v := 0) rfl ?_
        exact sX12_readsAct_75 (gI u 47 38) 0 u5
      · exact sX12_readsAct_70 (gI u 47 38) u5
  · refine r_iconst dX12_readsAct_37 (v := 0) rfl ?_
    exact r_zreturn0 rfl dX12_readsAct_38
theorem okX12_readsAct (u : US) : ∀ r, fX12_readsAct u = some r → MetC mX12_readsAct 7 [.ref 47] u (tI r) :=
  met_of (by decide +kernel) (Nat.le_of_ble_eq_true rfl) rfl (sX12_readsAct u)
def fX12_day_108 (v4 : Int32) (s1 : Int32) (u : US) : Option (Int32 × US) :=
  oB (fX12_flag s1 u) fun r1 u1 => oV (fX12_enters ((r1 : Int32).toInt64) u1) fun u2 => gd (inb 25 26) (oV (fX12_enters ((gA u2 55 25 : Int32).toInt64) u2) fun u3 => (if v4 ≤ 0 then some (0, u3) else oB (fX12_puts v4 u3) fun r4 u4 => some (r4, u4)))
set_option maxRecDepth 20000 in
theorem sX12_day_108 (v4 : Int32) (s1 : Int32) (u : US) : Sim tI mX12_day 8 (fX12_day_108 v4 s1 u) 108 [some (.ref 47), none, none, none, some (.int v4)] [.int s1, .ref 47] u := by
  unfold fX12_day_108
  refine c_SI (As := [.int s1]) ksX12_175 (by decide) (okX12_flag s1 u) rfl (Nat.le_of_ble_eq_true rfl) rfl dX12_day_108 (fun r1 u1 => ?_)
  refine r_i2l dX12_day_111 ?_
  refine c_VV (As := [.long ((r1 : Int32).toInt64)]) kvX12_387 rfl (by decide) (okX12_enters ((r1 : Int32).toInt64) u1) rfl (Nat.le_of_ble_eq_true rfl) rfl dX12_day_112 (fun u2 => ?_)
  refine r_aload_n dX12_day_115 rfl ?_
  refine r_aload_n dX12_day_116 rfl ?_
  refine r_get 47 15 flX12_49 rfl (v := .ref 55) rfl dX12_day_117 ?_
  refine r_bipush dX12_day_120 (v := 25) rfl ?_
  refine r_iald 55 rfl dX12_day_122 ?_
  refine r_i2l dX12_day_123 ?_
  refine c_VV (As := [.long ((gA u2 55 25 : Int32).toInt64)]) kvX12_387 rfl (by decide) (okX12_enters ((gA u2 55 25 : Int32).toInt64) u2) rfl (Nat.le_of_ble_eq_true rfl) rfl dX12_day_124 (fun u3 => ?_)
  refine r_iload dX12_day_127 rfl ?_
  refine r_if_le dX12_day_129 (tgt := 141) rfl ?_ ?_
  · refine r_iconst dX12_day_141 (v := 0) rfl ?_
    exact r_ireturn rfl dX12_day_142
  · refine r_aload_n dX12_day_132 rfl ?_
    refine r_iload dX12_day_133 rfl ?_
    refine c_VI (As := [.int v4]) kvX12_354 rfl (by decide) (okX12_puts v4 u3) rfl (Nat.le_of_ble_eq_true rfl) rfl dX12_day_135 (fun r4 u4 => ?_)
    refine r_goto dX12_day_138 (tgt := 142) rfl ?_
    exact r_ireturn rfl dX12_day_142
def fX12_day_88 (v4 : Int32) (u : US) : Option (Int32 × US) :=
  nx (sI u 47 1 0) fun u1 => (if (gI u1 47 38) ≤ v4 then fX12_day_108 v4 0 u1 else fX12_day_108 v4 1 u1)
set_option maxRecDepth 20000 in
theorem sX12_day_88 (v4 : Int32) (u : US) : Sim tI mX12_day 8 (fX12_day_88 v4 u) 88 [some (.ref 47), none, none, none, some (.int v4)] [] u := by
  unfold fX12_day_88
  refine r_aload_n dX12_day_88 rfl ?_
  refine r_iconst dX12_day_89 (v := 0) rfl ?_
  refine r_put 47 1 fpX12_15 rfl rfl dX12_day_90 (r_nx (fun u1 => ?_))
  refine r_aload_n dX12_day_93 rfl ?_
  refine r_iload dX12_day_94 rfl ?_
  refine r_aload_n dX12_day_96 rfl ?_
  refine r_get 47 38 flX12_391 rfl (v := .int (gI u1 47 38)) rfl dX12_day_97 ?_
  refine r_icmp_ge dX12_day_100 (tgt := 107) rfl ?_ ?_
  · refine r_iconst dX12_day_107 (v := 0) rfl ?_
    exact sX12_day_108 v4 0 u1
  · refine r_iconst dX12_day_103 (v := 1) rfl ?_
    refine r_goto dX12_day_104 (tgt := 108) rfl ?_
    exact sX12_day_108 v4 1 u1
def fX12_day_64 : Nat → Int32 → US → Option (Int32 × US)
  | 0, _, _ => none
  | n + 1, v4, u => (if (gI u 47 38) ≤ v4 then fX12_day_88 v4 u else oB (fX12_does v4 u) fun r1 u1 => (if r1 = 0 then fX12_day_88 v4 u1 else fX12_day_64 n (v4 + 1) u1))
set_option maxRecDepth 20000 in
theorem sX12_day_64 : ∀ (n : Nat) (v4 : Int32) (u : US), Sim tI mX12_day 8 (fX12_day_64 n v4 u) 64 [some (.ref 47), none, none, none, some (.int v4)] [] u := by
  intro n
  induction n with
  | zero =>
    intro v4 u
    rw [fX12_day_64.eq_1]
    exact r_none
  | succ n ih =>
    intro v4 u
    rw [fX12_day_64.eq_2]
    refine r_iload dX12_day_64 rfl ?_
    refine r_aload_n dX12_day_66 rfl ?_
    refine r_get 47 38 flX12_391 rfl (v := .int (gI u 47 38)) rfl dX12_day_67 ?_
    refine r_icmp_ge dX12_day_70 (tgt := 88) rfl ?_ ?_
    · exact sX12_day_88 v4 u
    · refine r_aload_n dX12_day_73 rfl ?_
      refine r_iload dX12_day_74 rfl ?_
      refine c_VI (As := [.int v4]) kvX12_402 rfl (by decide) (okX12_does v4 u) rfl (Nat.le_of_ble_eq_true rfl) rfl dX12_day_76 (fun r1 u1 => ?_)
      refine r_if_eq dX12_day_79 (tgt := 88) rfl ?_ ?_
      · exact sX12_day_88 v4 u1
      · refine r_iinc dX12_day_82 (Nat.le_of_ble_eq_true rfl) rfl (v := v4 + 1) rfl (ls2 := [some (.ref 47), none, none, none, some (.int (v4 + 1))]) rfl ?_
        refine r_goto dX12_day_85 (tgt := 64) rfl ?_
        exact ih (v4 + 1) u1
def fX12_day_42 (v1 : Int32) (v2 : Int32) (u : US) : Option (Int32 × US) :=
  oB (fX12_faultOf v1 60 v2 u) fun r1 u1 => (if 0 ≤ r1 then oV (fX12_putsBy u1) fun u2 => fX12_day_64 FU 0 u2 else some (r1, u1))
set_option maxRecDepth 20000 in
theorem sX12_day_42 (v1 : Int32) (v2 : Int32) (u : US) : Sim tI mX12_day 8 (fX12_day_42 v1 v2 u) 42 [some (.ref 47), some (.int v1), some (.int v2), none, none] [] u := by
  unfold fX12_day_42
  refine r_aload_n dX12_day_42 rfl ?_
  refine r_iload_n dX12_day_43 rfl ?_
  refine r_bipush dX12_day_44 (v := 60) rfl ?_
  refine r_iload_n dX12_day_46 rfl ?_
  refine c_VI (As := [.int v1, .int 60, .int v2]) kvX12_248 rfl (by decide) (okX12_faultOf v1 60 v2 u) rfl (Nat.le_of_ble_eq_true rfl) rfl dX12_day_47 (fun r1 u1 => ?_)
  refine r_istore_n dX12_day_50 (Nat.le_of_ble_eq_true rfl) (ls2 := [some (.ref 47), some (.int v1), some (.int v2), some (.int r1), none]) rfl ?_
  refine r_iload_n dX12_day_51 rfl ?_
  refine r_if_ge dX12_day_52 (tgt := 57) rfl ?_ ?_
  · refine r_aload_n dX12_day_57 rfl ?_
    refine c_VV (As := []) kvX12_367 rfl (by decide) (okX12_putsBy u1) rfl (Nat.le_of_ble_eq_true rfl) rfl dX12_day_58 (fun u2 => ?_)
    refine r_iconst dX12_day_61 (v := 0) rfl ?_
    refine r_istore dX12_day_62 (Nat.le_of_ble_eq_true rfl) (ls2 := [some (.ref 47), some (.int v1), some (.int v2), some (.int r1), some (.int 0)]) rfl ?_
    refine r_mk [true, false, false, false, true] (ls2 := [some (.ref 47), none, none, none, some (.int 0)]) rfl ?_
    exact sX12_day_64 FU 0 u2
  · refine r_iload_n dX12_day_55 rfl ?_
    exact r_ireturn rfl dX12_day_56
def fX12_day_19 : Nat → Int32 → Int32 → US → Option (Int32 × US)
  | 0, _, _, _ => none
  | n + 1, v1, v2, u => (if v2 = 0 then fX12_day_42 v1 v2 u else (if (gI u 47 20) ≤ (gI u 47 19) then fX12_day_42 v1 v2 u else oB (fX12_readsAct u) fun r1 u1 => fX12_day_19 n v1 r1 u1))
set_option maxRecDepth 20000 in
theorem sX12_day_19 : ∀ (n : Nat) (v1 : Int32) (v2 : Int32) (u : US), Sim tI mX12_day 8 (fX12_day_19 n v1 v2 u) 19 [some (.ref 47), some (.int v1), some (.int v2), none, none] [] u := by
  intro n
  induction n with
  | zero =>
    intro v1 v2 u
    rw [fX12_day_19.eq_1]
    exact r_none
  | succ n ih =>
    intro v1 v2 u
    rw [fX12_day_19.eq_2]
    refine r_iload_n dX12_day_19 rfl ?_
    refine r_if_eq dX12_day_20 (tgt := 42) rfl ?_ ?_
    · exact sX12_day_42 v1 v2 u
    · refine r_aload_n dX12_day_23 rfl ?_
      refine r_get 47 19 flX12_162 rfl (v := .int (gI u 47 19)) rfl dX12_day_24 ?_
      refine r_aload_n dX12_day_27 rfl ?_
      refine r_get 47 20 flX12_172 rfl (v := .int (gI u 47 20)) rfl dX12_day_28 ?_
      refine r_icmp_ge dX12_day_31 (tgt := 42) rfl ?_ ?_
      · exact sX12_day_42 v1 v2 u
      · refine r_aload_n dX12_day_34 rfl ?_
        refine c_VI (As := []) kvX12_399 rfl (by decide) (okX12_readsAct u) rfl (Nat.le_of_ble_eq_true rfl) rfl dX12_day_35 (fun r1 u1 => ?_)
        refine r_istore_n dX12_day_38 (Nat.le_of_ble_eq_true rfl) (ls2 := [some (.ref 47), some (.int v1), some (.int r1), none, none]) rfl ?_
        refine r_goto dX12_day_39 (tgt := 19) rfl ?_
        exact ih v1 r1 u1
def fX12_day (u : US) : Option (Int32 × US) :=
  nx (sI u 47 0 0) fun u1 => oB (fX12_begins 60 u1) fun r2 u2 => nx (sI u2 47 38 0) fun u3 => fX12_day_19 FU r2 1 u3
set_option maxRecDepth 20000 in
theorem sX12_day (u : US) : Sim tI mX12_day 8 (fX12_day u) 0 [some (.ref 47), none, none, none, none] [] u := by
  unfold fX12_day
  refine r_aload_n dX12_day_0 rfl ?_
  refine r_iconst dX12_day_1 (v := 0) rfl ?_
  refine r_put 47 0 fpX12_3 rfl rfl dX12_day_2 (r_nx (fun u1 => ?_))
  refine r_aload_n dX12_day_5 rfl ?_
  refine r_bipush dX12_day_6 (v := 60) rfl ?_
  refine c_VI (As := [.int 60]) kvX12_206 rfl (by decide) (okX12_begins 60 u1) rfl (Nat.le_of_ble_eq_true rfl) rfl dX12_day_8 (fun r2 u2 => ?_)
  refine r_istore_n dX12_day_11 (Nat.le_of_ble_eq_true rfl) (ls2 := [some (.ref 47), some (.int r2), none, none, none]) rfl ?_
  refine r_aload_n dX12_day_12 rfl ?_
  refine r_iconst dX12_day_13 (v := 0) rfl ?_
  refine r_put 47 38 fpX12_391 rfl rfl dX12_day_14 (r_nx (fun u3 => ?_))
  refine r_iconst dX12_day_17 (v := 1) rfl ?_
  refine r_istore_n dX12_day_18 (Nat.le_of_ble_eq_true rfl) (ls2 := [some (.ref 47), some (.int r2), some (.int 1), none, none]) rfl ?_
  exact sX12_day_19 FU r2 1 u3
theorem okX12_day (u : US) : ∀ r, fX12_day u = some r → MetC mX12_day 8 [.ref 47] u (tI r) :=
  met_of (by decide +kernel) (Nat.le_of_ble_eq_true rfl) rfl (sX12_day u)
def fX12_digitIn (v1 : Int32) (v2 : Int32) (u : US) : Option (Int32 × US) :=
  (if (gI u 47 20) ≤ (gI u 47 19) then some ((-1), u) else gd (inb (gI u 47 19) 80) (oB (fX12_in (((gA u 57 (gI u 47 19)) - 48 : Int32).toInt64) ((v1 : Int32).toInt64) ((v2 : Int32).toInt64) u) fun r1 u1 => (if r1 = 0 then some ((-1), u1) else nx (sI u1 47 19 ((gI u1 47 19) + 1)) fun u2 => gd (inb ((gI u2 47 19) - 1) 80) (some ((gA u2 57 ((gI u2 47 19) - 1)) - 48, u2)))))
set_option maxRecDepth 20000 in
theorem sX12_digitIn (v1 : Int32) (v2 : Int32) (u : US) : Sim tI mX12_digitIn 1 (fX12_digitIn v1 v2 u) 0 [some (.ref 47), some (.int v1), some (.int v2)] [] u := by
  unfold fX12_digitIn
  refine r_aload_n dX12_digitIn_0 rfl ?_
  refine r_get 47 19 flX12_162 rfl (v := .int (gI u 47 19)) rfl dX12_digitIn_1 ?_
  refine r_aload_n dX12_digitIn_4 rfl ?_
  refine r_get 47 20 flX12_172 rfl (v := .int (gI u 47 20)) rfl dX12_digitIn_5 ?_
  refine r_icmp_ge dX12_digitIn_8 (tgt := 34) rfl ?_ ?_
  · refine r_iconst dX12_digitIn_34 (v := -1) rfl ?_
    exact r_ireturn rfl dX12_digitIn_35
  · refine r_aload_n dX12_digitIn_11 rfl ?_
    refine r_get 47 17 flX12_55 rfl (v := .ref 57) rfl dX12_digitIn_12 ?_
    refine r_aload_n dX12_digitIn_15 rfl ?_
    refine r_get 47 19 flX12_162 rfl (v := .int (gI u 47 19)) rfl dX12_digitIn_16 ?_
    refine r_iald 57 rfl dX12_digitIn_19 ?_
    refine r_bipush dX12_digitIn_20 (v := 48) rfl ?_
    refine r_isub dX12_digitIn_22 ?_
    refine r_i2l dX12_digitIn_23 ?_
    refine r_iload_n dX12_digitIn_24 rfl ?_
    refine r_i2l dX12_digitIn_25 ?_
    refine r_iload_n dX12_digitIn_26 rfl ?_
    refine r_i2l dX12_digitIn_27 ?_
    refine c_SI (As := [.long (((gA u 57 (gI u 47 19)) - 48 : Int32).toInt64), .long ((v1 : Int32).toInt64), .long ((v2 : Int32).toInt64)]) ksX12_143 (by decide) (okX12_in (((gA u 57 (gI u 47 19)) - 48 : Int32).toInt64) ((v1 : Int32).toInt64) ((v2 : Int32).toInt64) u) rfl (Nat.le_of_ble_eq_true rfl) rfl dX12_digitIn_28 (fun r1 u1 => ?_)
    refine r_if_ne dX12_digitIn_31 (tgt := 36) rfl ?_ ?_
    · refine r_aload_n dX12_digitIn_36 rfl ?_
      refine r_dup dX12_digitIn_37 rfl ?_
      refine r_get 47 19 flX12_162 rfl (v := .int (gI u1 47 19)) rfl dX12_digitIn_38 ?_
      refine r_iconst dX12_digitIn_41 (v := 1) rfl ?_
      refine r_iadd dX12_digitIn_42 ?_
      refine r_put 47 19 fpX12_162 rfl rfl dX12_digitIn_43 (r_nx (fun u2 => ?_))
      refine r_aload_n dX12_digitIn_46 rfl ?_
      refine r_get 47 17 flX12_55 rfl (v := .ref 57) rfl dX12_digitIn_47 ?_
      refine r_aload_n dX12_digitIn_50 rfl ?_
      refine r_get 47 19 flX12_162 rfl (v := .int (gI u2 47 19)) rfl dX12_digitIn_51 ?_
      refine r_iconst dX12_digitIn_54 (v := 1) rfl ?_
      refine r_isub dX12_digitIn_55 ?_
      refine r_iald 57 rfl dX12_digitIn_56 ?_
      refine r_bipush dX12_digitIn_57 (v := 48) rfl ?_
      refine r_isub dX12_digitIn_59 ?_
      exact r_ireturn rfl dX12_digitIn_60
    · refine r_iconst dX12_digitIn_34 (v := -1) rfl ?_
      exact r_ireturn rfl dX12_digitIn_35
theorem okX12_digitIn (v1 : Int32) (v2 : Int32) (u : US) : ∀ r, fX12_digitIn v1 v2 u = some r → MetC mX12_digitIn 1 [.ref 47, .int v1, .int v2] u (tI r) :=
  met_of (by decide +kernel) (Nat.le_of_ble_eq_true rfl) rfl (sX12_digitIn v1 v2 u)
def fX12_doubts (v1 : Int32) (v2 : Int32) (u : US) : Option (Int32 × US) :=
  nx (sI u 47 0 0) fun u1 => oB (fX12_isRoom v1 u1) fun r2 u2 => (if r2 = 0 then some ((-1), u2) else oB (fX12_isRoom v2 u2) fun r3 u3 => (if r3 = 0 then some ((-1), u3) else (if v1 = v2 then some ((-1), u3) else oB (fX12_near 55 v1 u3) fun r4 u4 => oB (fX12_near 55 v2 u4) fun r5 u5 => oB (fX12_seen 55 v1 u5) fun r6 u6 => oB (fX12_seen 55 v2 u6) fun r7 u7 => nx (sI u7 47 1 0) fun u8 => oB (fX12_seen 55 v1 u8) fun r9 u9 => oV (fX12_enters ((((r6 ^^^ r7) &&& (r4 &&& r5)) &&& r9 : Int32).toInt64) u9) fun u10 => oV (fX12_enters ((r4 &&& r5 : Int32).toInt64) u10) fun u11 => some ((r6 ^^^ r7) &&& (r4 &&& r5), u11))))
set_option maxRecDepth 20000 in
theorem sX12_doubts (v1 : Int32) (v2 : Int32) (u : US) : Sim tI mX12_doubts 10 (fX12_doubts v1 v2 u) 0 [some (.ref 47), some (.int v1), some (.int v2), none, none] [] u := by
  unfold fX12_doubts
  refine r_aload_n dX12_doubts_0 rfl ?_
  refine r_iconst dX12_doubts_1 (v := 0) rfl ?_
  refine r_put 47 0 fpX12_3 rfl rfl dX12_doubts_2 (r_nx (fun u1 => ?_))
  refine r_aload_n dX12_doubts_5 rfl ?_
  refine r_iload_n dX12_doubts_6 rfl ?_
  refine c_VI (As := [.int v1]) kvX12_346 rfl (by decide) (okX12_isRoom v1 u1) rfl (Nat.le_of_ble_eq_true rfl) rfl dX12_doubts_7 (fun r2 u2 => ?_)
  refine r_if_eq dX12_doubts_10 (tgt := 26) rfl ?_ ?_
  · refine r_iconst dX12_doubts_26 (v := -1) rfl ?_
    exact r_ireturn rfl dX12_doubts_27
  · refine r_aload_n dX12_doubts_13 rfl ?_
    refine r_iload_n dX12_doubts_14 rfl ?_
    refine c_VI (As := [.int v2]) kvX12_346 rfl (by decide) (okX12_isRoom v2 u2) rfl (Nat.le_of_ble_eq_true rfl) rfl dX12_doubts_15 (fun r3 u3 => ?_)
    refine r_if_eq dX12_doubts_18 (tgt := 26) rfl ?_ ?_
    · refine r_iconst dX12_doubts_26 (v := -1) rfl ?_
      exact r_ireturn rfl dX12_doubts_27
    · refine r_iload_n dX12_doubts_21 rfl ?_
      refine r_iload_n dX12_doubts_22 rfl ?_
      refine r_icmp_ne dX12_doubts_23 (tgt := 28) rfl ?_ ?_
      · refine r_aload_n dX12_doubts_28 rfl ?_
        refine r_aload_n dX12_doubts_29 rfl ?_
        refine r_get 47 15 flX12_49 rfl (v := .ref 55) rfl dX12_doubts_30 ?_
        refine r_iload_n dX12_doubts_33 rfl ?_
        refine c_VI (As := [.ref 55, .int v1]) kvX12_318 rfl (by decide) (okX12_near 55 v1 u3) rfl (Nat.le_of_ble_eq_true rfl) rfl dX12_doubts_34 (fun r4 u4 => ?_)
        refine r_aload_n dX12_doubts_37 rfl ?_
        refine r_aload_n dX12_doubts_38 rfl ?_
        refine r_get 47 15 flX12_49 rfl (v := .ref 55) rfl dX12_doubts_39 ?_
        refine r_iload_n dX12_doubts_42 rfl ?_
        refine c_VI (As := [.ref 55, .int v2]) kvX12_318 rfl (by decide) (okX12_near 55 v2 u4) rfl (Nat.le_of_ble_eq_true rfl) rfl dX12_doubts_43 (fun r5 u5 => ?_)
        refine r_iand dX12_doubts_46 ?_
        refine r_istore_n dX12_doubts_47 (Nat.le_of_ble_eq_true rfl) (ls2 := [some (.ref 47), some (.int v1), some (.int v2), some (.int (r4 &&& r5)), none]) rfl ?_
        refine r_aload_n dX12_doubts_48 rfl ?_
        refine r_aload_n dX12_doubts_49 rfl ?_
        refine r_get 47 15 flX12_49 rfl (v := .ref 55) rfl dX12_doubts_50 ?_
        refine r_iload_n dX12_doubts_53 rfl ?_
        refine c_VI (As := [.ref 55, .int v1]) kvX12_340 rfl (by decide) (okX12_seen 55 v1 u5) rfl (Nat.le_of_ble_eq_true rfl) rfl dX12_doubts_54 (fun r6 u6 => ?_)
        refine r_aload_n dX12_doubts_57 rfl ?_
        refine r_aload_n dX12_doubts_58 rfl ?_
        refine r_get 47 15 flX12_49 rfl (v := .ref 55) rfl dX12_doubts_59 ?_
        refine r_iload_n dX12_doubts_62 rfl ?_
        refine c_VI (As := [.ref 55, .int v2]) kvX12_340 rfl (by decide) (okX12_seen 55 v2 u6) rfl (Nat.le_of_ble_eq_true rfl) rfl dX12_doubts_63 (fun r7 u7 => ?_)
        refine r_ixor dX12_doubts_66 ?_
        refine r_iload_n dX12_doubts_67 rfl ?_
        refine r_iand dX12_doubts_68 ?_
        refine r_istore dX12_doubts_69 (Nat.le_of_ble_eq_true rfl) (ls2 := [some (.ref 47), some (.int v1), some (.int v2), some (.int (r4 &&& r5)), some (.int ((r6 ^^^ r7) &&& (r4 &&& r5)))]) rfl ?_
        refine r_aload_n dX12_doubts_71 rfl ?_
        refine r_iconst dX12_doubts_72 (v := 0) rfl ?_
        refine r_put 47 1 fpX12_15 rfl rfl dX12_doubts_73 (r_nx (fun u8 => ?_))
        refine r_aload_n dX12_doubts_76 rfl ?_
        refine r_iload dX12_doubts_77 rfl ?_
        refine r_aload_n dX12_doubts_79 rfl ?_
        refine r_aload_n dX12_doubts_80 rfl ?_
        refine r_get 47 15 flX12_49 rfl (v := .ref 55) rfl dX12_doubts_81 ?_
        refine r_iload_n dX12_doubts_84 rfl ?_
        refine c_VI (As := [.ref 55, .int v1]) kvX12_340 rfl (by decide) (okX12_seen 55 v1 u8) rfl (Nat.le_of_ble_eq_true rfl) rfl dX12_doubts_85 (fun r9 u9 => ?_)
        refine r_iand dX12_doubts_88 ?_
        refine r_i2l dX12_doubts_89 ?_
        refine c_VV (As := [.long ((((r6 ^^^ r7) &&& (r4 &&& r5)) &&& r9 : Int32).toInt64)]) kvX12_387 rfl (by decide) (okX12_enters ((((r6 ^^^ r7) &&& (r4 &&& r5)) &&& r9 : Int32).toInt64) u9) rfl (Nat.le_of_ble_eq_true rfl) rfl dX12_doubts_90 (fun u10 => ?_)
        refine r_aload_n dX12_doubts_93 rfl ?_
        refine r_iload_n dX12_doubts_94 rfl ?_
        refine r_i2l dX12_doubts_95 ?_
        refine c_VV (As := [.long ((r4 &&& r5 : Int32).toInt64)]) kvX12_387 rfl (by decide) (okX12_enters ((r4 &&& r5 : Int32).toInt64) u10) rfl (Nat.le_of_ble_eq_true rfl) rfl dX12_doubts_96 (fun u11 => ?_)
        refine r_iload dX12_doubts_99 rfl ?_
        exact r_ireturn rfl dX12_doubts_101
      · refine r_iconst dX12_doubts_26 (v := -1) rfl ?_
        exact r_ireturn rfl dX12_doubts_27
theorem okX12_doubts (v1 : Int32) (v2 : Int32) (u : US) : ∀ r, fX12_doubts v1 v2 u = some r → MetC mX12_doubts 10 [.ref 47, .int v1, .int v2] u (tI r) :=
  met_of (by decide +kernel) (Nat.le_of_ble_eq_true rfl) rfl (sX12_doubts v1 v2 u)
def fX12_draws (v1 : Int32) (u : US) : Option (Int32 × US) :=
  nx (sI u 47 53 (((gI u 47 53) * 1103515245) + 12345)) fun u1 => if v1 = 0 then none else some ((ush (gI u1 47 53) 16) - (ush (gI u1 47 53) 16) / v1 * v1, u1)
set_option maxRecDepth 20000 in
theorem sX12_draws (v1 : Int32) (u : US) : Sim tI mX12_draws 0 (fX12_draws v1 u) 0 [some (.ref 47), some (.int v1)] [] u := by
  unfold fX12_draws
  refine r_aload_n dX12_draws_0 rfl ?_
  refine r_aload_n dX12_draws_1 rfl ?_
  refine r_get 47 53 flX12_452 rfl (v := .int (gI u 47 53)) rfl dX12_draws_2 ?_
  refine r_ldc_w dX12_draws_5 kIX12_455 ?_
  refine r_imul dX12_draws_8 ?_
  refine r_sipush dX12_draws_9 (v := 12345) rfl ?_
  refine r_iadd dX12_draws_12 ?_
  refine r_put 47 53 fpX12_452 rfl rfl dX12_draws_13 (r_nx (fun u1 => ?_))
  refine r_aload_n dX12_draws_16 rfl ?_
  refine r_get 47 53 flX12_452 rfl (v := .int (gI u1 47 53)) rfl dX12_draws_17 ?_
  refine r_bipush dX12_draws_20 (v := 16) rfl ?_
  refine r_iushr dX12_draws_22 ?_
  refine r_iload_n dX12_draws_23 rfl ?_
  refine r_irem dX12_draws_24 ?_
  exact r_ireturn rfl dX12_draws_25
theorem okX12_draws (v1 : Int32) (u : US) : ∀ r, fX12_draws v1 u = some r → MetC mX12_draws 0 [.ref 47, .int v1] u (tI r) :=
  met_of (by decide +kernel) (Nat.le_of_ble_eq_true rfl) rfl (sX12_draws v1 u)
def fX12_end (v1 : Int32) (u : US) : Option (Int32 × US) :=
  nx (sI u 47 0 0) fun u1 => oB (fX12_in ((v1 : Int32).toInt64) 0 ((gI u1 47 18 : Int32).toInt64) u1) fun r2 u2 => (if r2 = 0 then some (0, u2) else nx (sI u2 47 18 v1) fun u3 => some (1, u3))
set_option maxRecDepth 20000 in
theorem sX12_end (v1 : Int32) (u : US) : Sim tI mX12_end 1 (fX12_end v1 u) 0 [some (.ref 47), some (.int v1)] [] u := by
  unfold fX12_end
  refine r_aload_n dX12_end_0 rfl ?_
  refine r_iconst dX12_end_1 (v := 0) rfl ?_
  refine r_put 47 0 fpX12_3 rfl rfl dX12_end_2 (r_nx (fun u1 => ?_))
  refine r_iload_n dX12_end_5 rfl ?_
  refine r_i2l dX12_end_6 ?_
  refine r_lconst dX12_end_7 (v := 0) rfl ?_
  refine r_aload_n dX12_end_8 rfl ?_
  refine r_get 47 18 flX12_159 rfl (v := .int (gI u1 47 18)) rfl dX12_end_9 ?_
  refine r_i2l dX12_end_12 ?_
  refine c_SI (As := [.long ((v1 : Int32).toInt64), .long 0, .long ((gI u1 47 18 : Int32).toInt64)]) ksX12_143 (by decide) (okX12_in ((v1 : Int32).toInt64) 0 ((gI u1 47 18 : Int32).toInt64) u1) rfl (Nat.le_of_ble_eq_true rfl) rfl dX12_end_13 (fun r2 u2 => ?_)
  refine r_if_ne dX12_end_16 (tgt := 21) rfl ?_ ?_
  · refine r_aload_n dX12_end_21 rfl ?_
    refine r_iload_n dX12_end_22 rfl ?_
    refine r_put 47 18 fpX12_159 rfl rfl dX12_end_23 (r_nx (fun u3 => ?_))
    refine r_iconst dX12_end_26 (v := 1) rfl ?_
    exact r_zreturn1 rfl dX12_end_27
  · refine r_iconst dX12_end_19 (v := 0) rfl ?_
    exact r_zreturn0 rfl dX12_end_20
theorem okX12_end (v1 : Int32) (u : US) : ∀ r, fX12_end v1 u = some r → MetC mX12_end 1 [.ref 47, .int v1] u (tI r) :=
  met_of (by decide +kernel) (Nat.le_of_ble_eq_true rfl) rfl (sX12_end v1 u)
def fX12_first_29 (v1 : Int32) (v2 : Int32) : Nat → Int32 → US → Option (Int32 × US)
  | 0, _, _ => none
  | n + 1, v3, u => (if (99 : Int32) < v3 then some ((-2), u) else oB (fX12_seen 56 v1 u) fun r1 u1 => oB (fX12_has r1 v2 u1) fun r2 u2 => (if r2 = 0 then oV (fX12_hourGoes 56 u2) fun u3 => fX12_first_29 v1 v2 n (v3 + 1) u3 else nx (sI u2 47 1 0) fun u4 => gd (inb v2 26) (oV (fX12_enters ((gA u4 56 v2 : Int32).toInt64) u4) fun u5 => some (v3, u5))))
set_option maxRecDepth 20000 in
theorem sX12_first_29 (v1 : Int32) (v2 : Int32) : ∀ (n : Nat) (v3 : Int32) (u : US), Sim tI mX12_first 10 (fX12_first_29 v1 v2 n v3 u) 29 [some (.ref 47), some (.int v1), some (.int v2), some (.int v3)] [] u := by
  intro n
  induction n with
  | zero =>
    intro v3 u
    rw [fX12_first_29.eq_1]
    exact r_none
  | succ n ih =>
    intro v3 u
    rw [fX12_first_29.eq_2]
    refine r_iload_n dX12_first_29 rfl ?_
    refine r_bipush dX12_first_30 (v := 99) rfl ?_
    refine r_icmp_gt dX12_first_32 (tgt := 83) rfl ?_ ?_
    · refine r_bipush dX12_first_83 (v := -2) rfl ?_
      exact r_ireturn rfl dX12_first_85
    · refine r_aload_n dX12_first_35 rfl ?_
      refine r_aload_n dX12_first_36 rfl ?_
      refine r_get 47 16 flX12_52 rfl (v := .ref 56) rfl dX12_first_37 ?_
      refine r_iload_n dX12_first_40 rfl ?_
      refine c_VI (As := [.ref 56, .int v1]) kvX12_340 rfl (by decide) (okX12_seen 56 v1 u) rfl (Nat.le_of_ble_eq_true rfl) rfl dX12_first_41 (fun r1 u1 => ?_)
      refine r_iload_n dX12_first_44 rfl ?_
      refine c_SI (As := [.int r1, .int v2]) ksX12_296 (by decide) (okX12_has r1 v2 u1) rfl (Nat.le_of_ble_eq_true rfl) rfl dX12_first_45 (fun r2 u2 => ?_)
      refine r_if_eq dX12_first_48 (tgt := 69) rfl ?_ ?_
      · refine r_aload_n dX12_first_69 rfl ?_
        refine r_aload_n dX12_first_70 rfl ?_
        refine r_get 47 16 flX12_52 rfl (v := .ref 56) rfl dX12_first_71 ?_
        refine c_VV (As := [.ref 56]) kvX12_360 rfl (by decide) (okX12_hourGoes 56 u2) rfl (Nat.le_of_ble_eq_true rfl) rfl dX12_first_74 (fun u3 => ?_)
        refine r_iinc dX12_first_77 (Nat.le_of_ble_eq_true rfl) rfl (v := v3 + 1) rfl (ls2 := [some (.ref 47), some (.int v1), some (.int v2), some (.int (v3 + 1))]) rfl ?_
        refine r_goto dX12_first_80 (tgt := 29) rfl ?_
        exact ih (v3 + 1) u3
      · refine r_aload_n dX12_first_51 rfl ?_
        refine r_iconst dX12_first_52 (v := 0) rfl ?_
        refine r_put 47 1 fpX12_15 rfl rfl dX12_first_53 (r_nx (fun u4 => ?_))
        refine r_aload_n dX12_first_56 rfl ?_
        refine r_aload_n dX12_first_57 rfl ?_
        refine r_get 47 16 flX12_52 rfl (v := .ref 56) rfl dX12_first_58 ?_
        refine r_iload_n dX12_first_61 rfl ?_
        refine r_iald 56 rfl dX12_first_62 ?_
        refine r_i2l dX12_first_63 ?_
        refine c_VV (As := [.long ((gA u4 56 v2 : Int32).toInt64)]) kvX12_387 rfl (by decide) (okX12_enters ((gA u4 56 v2 : Int32).toInt64) u4) rfl (Nat.le_of_ble_eq_true rfl) rfl dX12_first_64 (fun u5 => ?_)
        refine r_iload_n dX12_first_67 rfl ?_
        exact r_ireturn rfl dX12_first_68
def fX12_first (v1 : Int32) (v2 : Int32) (u : US) : Option (Int32 × US) :=
  nx (sI u 47 0 0) fun u1 => oB (fX12_isRoom v1 u1) fun r2 u2 => (if r2 = 0 then some ((-1), u2) else oB (fX12_isThing v2 u2) fun r3 u3 => (if r3 = 0 then some ((-1), u3) else oV (fX12_copies u3) fun u4 => fX12_first_29 v1 v2 FU 0 u4))
set_option maxRecDepth 20000 in
theorem sX12_first (v1 : Int32) (v2 : Int32) (u : US) : Sim tI mX12_first 10 (fX12_first v1 v2 u) 0 [some (.ref 47), some (.int v1), some (.int v2), none] [] u := by
  unfold fX12_first
  refine r_aload_n dX12_first_0 rfl ?_
  refine r_iconst dX12_first_1 (v := 0) rfl ?_
  refine r_put 47 0 fpX12_3 rfl rfl dX12_first_2 (r_nx (fun u1 => ?_))
  refine r_aload_n dX12_first_5 rfl ?_
  refine r_iload_n dX12_first_6 rfl ?_
  refine c_VI (As := [.int v1]) kvX12_346 rfl (by decide) (okX12_isRoom v1 u1) rfl (Nat.le_of_ble_eq_true rfl) rfl dX12_first_7 (fun r2 u2 => ?_)
  refine r_if_eq dX12_first_10 (tgt := 21) rfl ?_ ?_
  · refine r_iconst dX12_first_21 (v := -1) rfl ?_
    exact r_ireturn rfl dX12_first_22
  · refine r_aload_n dX12_first_13 rfl ?_
    refine r_iload_n dX12_first_14 rfl ?_
    refine c_VI (As := [.int v2]) kvX12_332 rfl (by decide) (okX12_isThing v2 u2) rfl (Nat.le_of_ble_eq_true rfl) rfl dX12_first_15 (fun r3 u3 => ?_)
    refine r_if_ne dX12_first_18 (tgt := 23) rfl ?_ ?_
    · refine r_aload_n dX12_first_23 rfl ?_
      refine c_VV (As := []) kvX12_407 rfl (by decide) (okX12_copies u3) rfl (Nat.le_of_ble_eq_true rfl) rfl dX12_first_24 (fun u4 => ?_)
      refine r_iconst dX12_first_27 (v := 0) rfl ?_
      refine r_istore_n dX12_first_28 (Nat.le_of_ble_eq_true rfl) (ls2 := [some (.ref 47), some (.int v1), some (.int v2), some (.int 0)]) rfl ?_
      exact sX12_first_29 v1 v2 FU 0 u4
    · refine r_iconst dX12_first_21 (v := -1) rfl ?_
      exact r_ireturn rfl dX12_first_22
theorem okX12_first (v1 : Int32) (v2 : Int32) (u : US) : ∀ r, fX12_first v1 v2 u = some r → MetC mX12_first 10 [.ref 47, .int v1, .int v2] u (tI r) :=
  met_of (by decide +kernel) (Nat.le_of_ble_eq_true rfl) rfl (sX12_first v1 v2 u)
def fX12_shows (v0 : Int32) (v1 : Int32) (v2 : Int32) (v3 : Int32) (u : US) : Option (Int32 × US) :=
  oB (fX12_has v0 v2 u) fun r1 u1 => (if r1 = 0 then (if v1 < v3 then some (0, u1) else some (1, u1)) else some (0, u1))
set_option maxRecDepth 20000 in
theorem sX12_shows (v0 : Int32) (v1 : Int32) (v2 : Int32) (v3 : Int32) (u : US) : Sim tI mX12_shows 1 (fX12_shows v0 v1 v2 v3 u) 0 [some (.int v0), some (.int v1), some (.int v2), some (.int v3)] [] u := by
  unfold fX12_shows
  refine r_iload_n dX12_shows_0 rfl ?_
  refine r_iload_n dX12_shows_1 rfl ?_
  refine c_SI (As := [.int v0, .int v2]) ksX12_296 (by decide) (okX12_has v0 v2 u) rfl (Nat.le_of_ble_eq_true rfl) rfl dX12_shows_2 (fun r1 u1 => ?_)
  refine r_if_ne dX12_shows_5 (tgt := 17) rfl ?_ ?_
  · refine r_iconst dX12_shows_17 (v := 0) rfl ?_
    exact r_zreturn0 rfl dX12_shows_18
  · refine r_iload_n dX12_shows_8 rfl ?_
    refine r_iload_n dX12_shows_9 rfl ?_
    refine r_icmp_gt dX12_shows_10 (tgt := 17) rfl ?_ ?_
    · refine r_iconst dX12_shows_17 (v := 0) rfl ?_
      exact r_zreturn0 rfl dX12_shows_18
    · refine r_iconst dX12_shows_13 (v := 1) rfl ?_
      refine r_goto dX12_shows_14 (tgt := 18) rfl ?_
      exact r_zreturn1 rfl dX12_shows_18
theorem okX12_shows (v0 : Int32) (v1 : Int32) (v2 : Int32) (v3 : Int32) (u : US) : ∀ r, fX12_shows v0 v1 v2 v3 u = some r → MetC mX12_shows 1 [.int v0, .int v1, .int v2, .int v3] u (tI r) :=
  met_of (by decide +kernel) (Nat.le_of_ble_eq_true rfl) rfl (sX12_shows v0 v1 v2 v3 u)
def fX12_isLaw_5 (v1 : Int32) (v2 : Int32) : Nat → Int32 → Int32 → US → Option (Int32 × US)
  | 0, _, _, _ => none
  | n + 1, v3, v4, u => (if (gI u 47 43) ≤ v4 then gd (isB v3) (some (v3, u)) else (if v3 = 0 then fX12_isLaw_5 v1 v2 n 0 (v4 + 1) u else gd (inb v4 12) (gd (inb v4 12) (oB (fX12_shows v1 v2 (gA u 74 v4) (gA u 75 v4) u) fun r1 u1 => oB (fX12_flag r1 u1) fun r2 u2 => gd (inb v4 12) ((if r2 = (gA u2 76 v4) then fX12_isLaw_5 v1 v2 n 1 (v4 + 1) u2 else fX12_isLaw_5 v1 v2 n 0 (v4 + 1) u2))))))
set_option maxRecDepth 20000 in
theorem sX12_isLaw_5 (v1 : Int32) (v2 : Int32) : ∀ (n : Nat) (v3 : Int32) (v4 : Int32) (u : US), Sim tI mX12_isLaw 2 (fX12_isLaw_5 v1 v2 n v3 v4 u) 5 [some (.ref 47), some (.int v1), some (.int v2), some (.int v3), some (.int v4)] [] u := by
  intro n
  induction n with
  | zero =>
    intro v3 v4 u
    rw [fX12_isLaw_5.eq_1]
    exact r_none
  | succ n ih =>
    intro v3 v4 u
    rw [fX12_isLaw_5.eq_2]
    refine r_iload dX12_isLaw_5 rfl ?_
    refine r_aload_n dX12_isLaw_7 rfl ?_
    refine r_get 47 43 flX12_212 rfl (v := .int (gI u 47 43)) rfl dX12_isLaw_8 ?_
    refine r_icmp_ge dX12_isLaw_11 (tgt := 62) rfl ?_ ?_
    · refine r_iload_n dX12_isLaw_62 rfl ?_
      exact r_zreturn rfl dX12_isLaw_63
    · refine r_iload_n dX12_isLaw_14 rfl ?_
      refine r_if_eq dX12_isLaw_15 (tgt := 54) rfl ?_ ?_
      · refine r_iconst dX12_isLaw_54 (v := 0) rfl ?_
        refine r_istore_n dX12_isLaw_55 (Nat.le_of_ble_eq_true rfl) (ls2 := [some (.ref 47), some (.int v1), some (.int v2), some (.int 0), some (.int v4)]) rfl ?_
        refine r_iinc dX12_isLaw_56 (Nat.le_of_ble_eq_true rfl) rfl (v := v4 + 1) rfl (ls2 := [some (.ref 47), some (.int v1), some (.int v2), some (.int 0), some (.int (v4 + 1))]) rfl ?_
        refine r_goto dX12_isLaw_59 (tgt := 5) rfl ?_
        exact ih 0 (v4 + 1) u
      · refine r_iload_n dX12_isLaw_18 rfl ?_
        refine r_iload_n dX12_isLaw_19 rfl ?_
        refine r_aload_n dX12_isLaw_20 rfl ?_
        refine r_get 47 44 flX12_107 rfl (v := .ref 74) rfl dX12_isLaw_21 ?_
        refine r_iload dX12_isLaw_24 rfl ?_
        refine r_iald 74 rfl dX12_isLaw_26 ?_
        refine r_aload_n dX12_isLaw_27 rfl ?_
        refine r_get 47 45 flX12_110 rfl (v := .ref 75) rfl dX12_isLaw_28 ?_
        refine r_iload dX12_isLaw_31 rfl ?_
        refine r_iald 75 rfl dX12_isLaw_33 ?_
        refine c_SI (As := [.int v1, .int v2, .int (gA u 74 v4), .int (gA u 75 v4)]) ksX12_429 (by decide) (okX12_shows v1 v2 (gA u 74 v4) (gA u 75 v4) u) rfl (Nat.le_of_ble_eq_true rfl) rfl dX12_isLaw_34 (fun r1 u1 => ?_)
        refine c_SI (As := [.int r1]) ksX12_175 (by decide) (okX12_flag r1 u1) rfl (Nat.le_of_ble_eq_true rfl) rfl dX12_isLaw_37 (fun r2 u2 => ?_)
        refine r_aload_n dX12_isLaw_40 rfl ?_
        refine r_get 47 46 flX12_113 rfl (v := .ref 76) rfl dX12_isLaw_41 ?_
        refine r_iload dX12_isLaw_44 rfl ?_
        refine r_iald 76 rfl dX12_isLaw_46 ?_
        refine r_icmp_ne dX12_isLaw_47 (tgt := 54) rfl ?_ ?_
        · refine r_iconst dX12_isLaw_54 (v := 0) rfl ?_
          refine r_istore_n dX12_isLaw_55 (Nat.le_of_ble_eq_true rfl) (ls2 := [some (.ref 47), some (.int v1), some (.int v2), some (.int 0), some (.int v4)]) rfl ?_
          refine r_iinc dX12_isLaw_56 (Nat.le_of_ble_eq_true rfl) rfl (v := v4 + 1) rfl (ls2 := [some (.ref 47), some (.int v1), some (.int v2), some (.int 0), some (.int (v4 + 1))]) rfl ?_
          refine r_goto dX12_isLaw_59 (tgt := 5) rfl ?_
          exact ih 0 (v4 + 1) u2
        · refine r_iconst dX12_isLaw_50 (v := 1) rfl ?_
          refine r_goto dX12_isLaw_51 (tgt := 55) rfl ?_
          refine r_istore_n dX12_isLaw_55 (Nat.le_of_ble_eq_true rfl) (ls2 := [some (.ref 47), some (.int v1), some (.int v2), some (.int 1), some (.int v4)]) rfl ?_
          refine r_iinc dX12_isLaw_56 (Nat.le_of_ble_eq_true rfl) rfl (v := v4 + 1) rfl (ls2 := [some (.ref 47), some (.int v1), some (.int v2), some (.int 1), some (.int (v4 + 1))]) rfl ?_
          refine r_goto dX12_isLaw_59 (tgt := 5) rfl ?_
          exact ih 1 (v4 + 1) u2
def fX12_isLaw (v1 : Int32) (v2 : Int32) (u : US) : Option (Int32 × US) :=
  fX12_isLaw_5 v1 v2 FU 1 0 u
set_option maxRecDepth 20000 in
theorem sX12_isLaw (v1 : Int32) (v2 : Int32) (u : US) : Sim tI mX12_isLaw 2 (fX12_isLaw v1 v2 u) 0 [some (.ref 47), some (.int v1), some (.int v2), none, none] [] u := by
  unfold fX12_isLaw
  refine r_iconst dX12_isLaw_0 (v := 1) rfl ?_
  refine r_istore_n dX12_isLaw_1 (Nat.le_of_ble_eq_true rfl) (ls2 := [some (.ref 47), some (.int v1), some (.int v2), some (.int 1), none]) rfl ?_
  refine r_iconst dX12_isLaw_2 (v := 0) rfl ?_
  refine r_istore dX12_isLaw_3 (Nat.le_of_ble_eq_true rfl) (ls2 := [some (.ref 47), some (.int v1), some (.int v2), some (.int 1), some (.int 0)]) rfl ?_
  exact sX12_isLaw_5 v1 v2 FU 1 0 u
theorem okX12_isLaw (v1 : Int32) (v2 : Int32) (u : US) : ∀ r, fX12_isLaw v1 v2 u = some r → MetC mX12_isLaw 2 [.ref 47, .int v1, .int v2] u (tI r) :=
  met_of (by decide +kernel) (Nat.le_of_ble_eq_true rfl) rfl (sX12_isLaw v1 v2 u)
def fX12_fits_9 : Nat → Int32 → Int32 → US → Option (Int32 × US)
  | 0, _, _, _ => none
  | n + 1, v1, v2, u => (if (gI u 47 6) ≤ v2 then nx (sI u 47 1 0) fun u1 => oB (fJ6_bitCount_0f7a4 v1 u1) fun r2 u2 => oV (fX12_enters ((r2 : Int32).toInt64) u2) fun u3 => some (v1, u3) else gd (inb v2 8) (gd (inb v2 8) (oB (fX12_isLaw (gA u 52 v2) (gA u 51 v2) u) fun r4 u4 => (if r4 = 0 then fX12_fits_9 n (v1 ||| 0) (v2 + 1) u4 else fX12_fits_9 n (v1 ||| (1 <<< (v2 &&& 31))) (v2 + 1) u4))))
set_option maxRecDepth 20000 in
theorem sX12_fits_9 : ∀ (n : Nat) (v1 : Int32) (v2 : Int32) (u : US), Sim tI mX12_fits 3 (fX12_fits_9 n v1 v2 u) 9 [some (.ref 47), some (.int v1), some (.int v2)] [] u := by
  intro n
  induction n with
  | zero =>
    intro v1 v2 u
    rw [fX12_fits_9.eq_1]
    exact r_none
  | succ n ih =>
    intro v1 v2 u
    rw [fX12_fits_9.eq_2]
    refine r_iload_n dX12_fits_9 rfl ?_
    refine r_aload_n dX12_fits_10 rfl ?_
    refine r_get 47 6 flX12_147 rfl (v := .int (gI u 47 6)) rfl dX12_fits_11 ?_
    refine r_icmp_ge dX12_fits_14 (tgt := 52) rfl ?_ ?_
    · refine r_aload_n dX12_fits_52 rfl ?_
      refine r_iconst dX12_fits_53 (v := 0) rfl ?_
      refine r_put 47 1 fpX12_15 rfl rfl dX12_fits_54 (r_nx (fun u1 => ?_))
      refine r_aload_n dX12_fits_57 rfl ?_
      refine r_iload_n dX12_fits_58 rfl ?_
      refine c_SI (As := [.int v1]) ksX12_300 (by decide) (okJ6_bitCount_0f7a4 v1 u1) rfl (Nat.le_of_ble_eq_true rfl) rfl dX12_fits_59 (fun r2 u2 => ?_)
      refine r_i2l dX12_fits_62 ?_
      refine c_VV (As := [.long ((r2 : Int32).toInt64)]) kvX12_387 rfl (by decide) (okX12_enters ((r2 : Int32).toInt64) u2) rfl (Nat.le_of_ble_eq_true rfl) rfl dX12_fits_63 (fun u3 => ?_)
      refine r_iload_n dX12_fits_66 rfl ?_
      exact r_ireturn rfl dX12_fits_67
    · refine r_iload_n dX12_fits_17 rfl ?_
      refine r_aload_n dX12_fits_18 rfl ?_
      refine r_aload_n dX12_fits_19 rfl ?_
      refine r_get 47 12 flX12_40 rfl (v := .ref 52) rfl dX12_fits_20 ?_
      refine r_iload_n dX12_fits_23 rfl ?_
      refine r_iald 52 rfl dX12_fits_24 ?_
      refine r_aload_n dX12_fits_25 rfl ?_
      refine r_get 47 11 flX12_37 rfl (v := .ref 51) rfl dX12_fits_26 ?_
      refine r_iload_n dX12_fits_29 rfl ?_
      refine r_iald 51 rfl dX12_fits_30 ?_
      refine c_VI (As := [.int (gA u 52 v2), .int (gA u 51 v2)]) kvX12_433 rfl (by decide) (okX12_isLaw (gA u 52 v2) (gA u 51 v2) u) rfl (Nat.le_of_ble_eq_true rfl) rfl dX12_fits_31 (fun r4 u4 => ?_)
      refine r_if_eq dX12_fits_34 (tgt := 43) rfl ?_ ?_
      · refine r_iconst dX12_fits_43 (v := 0) rfl ?_
        refine r_ior dX12_fits_44 ?_
        refine r_istore_n dX12_fits_45 (Nat.le_of_ble_eq_true rfl) (ls2 := [some (.ref 47), some (.int (v1 ||| 0)), some (.int v2)]) rfl ?_
        refine r_iinc dX12_fits_46 (Nat.le_of_ble_eq_true rfl) rfl (v := v2 + 1) rfl (ls2 := [some (.ref 47), some (.int (v1 ||| 0)), some (.int (v2 + 1))]) rfl ?_
        refine r_goto dX12_fits_49 (tgt := 9) rfl ?_
        exact ih (v1 ||| 0) (v2 + 1) u4
      · refine r_iconst dX12_fits_37 (v := 1) rfl ?_
        refine r_iload_n dX12_fits_38 rfl ?_
        refine r_ishl dX12_fits_39 ?_
        refine r_goto dX12_fits_40 (tgt := 44) rfl ?_
        refine r_ior dX12_fits_44 ?_
        refine r_istore_n dX12_fits_45 (Nat.le_of_ble_eq_true rfl) (ls2 := [some (.ref 47), some (.int (v1 ||| (1 <<< (v2 &&& 31)))), some (.int v2)]) rfl ?_
        refine r_iinc dX12_fits_46 (Nat.le_of_ble_eq_true rfl) rfl (v := v2 + 1) rfl (ls2 := [some (.ref 47), some (.int (v1 ||| (1 <<< (v2 &&& 31)))), some (.int (v2 + 1))]) rfl ?_
        refine r_goto dX12_fits_49 (tgt := 9) rfl ?_
        exact ih (v1 ||| (1 <<< (v2 &&& 31))) (v2 + 1) u4
def fX12_fits (u : US) : Option (Int32 × US) :=
  nx (sI u 47 0 0) fun u1 => fX12_fits_9 FU 0 0 u1
set_option maxRecDepth 20000 in
theorem sX12_fits (u : US) : Sim tI mX12_fits 3 (fX12_fits u) 0 [some (.ref 47), none, none] [] u := by
  unfold fX12_fits
  refine r_aload_n dX12_fits_0 rfl ?_
  refine r_iconst dX12_fits_1 (v := 0) rfl ?_
  refine r_put 47 0 fpX12_3 rfl rfl dX12_fits_2 (r_nx (fun u1 => ?_))
  refine r_iconst dX12_fits_5 (v := 0) rfl ?_
  refine r_istore_n dX12_fits_6 (Nat.le_of_ble_eq_true rfl) (ls2 := [some (.ref 47), some (.int 0), none]) rfl ?_
  refine r_iconst dX12_fits_7 (v := 0) rfl ?_
  refine r_istore_n dX12_fits_8 (Nat.le_of_ble_eq_true rfl) (ls2 := [some (.ref 47), some (.int 0), some (.int 0)]) rfl ?_
  exact sX12_fits_9 FU 0 0 u1
theorem okX12_fits (u : US) : ∀ r, fX12_fits u = some r → MetC mX12_fits 3 [.ref 47] u (tI r) :=
  met_of (by decide +kernel) (Nat.le_of_ble_eq_true rfl) rfl (sX12_fits u)
def fX12_forget (u : US) : Option (Int32 × US) :=
  nx (sI u 47 0 0) fun u1 => nx (sI u1 47 43 0) fun u2 => some (gI u1 47 43, u2)
set_option maxRecDepth 20000 in
theorem sX12_forget (u : US) : Sim tI mX12_forget 0 (fX12_forget u) 0 [some (.ref 47), none] [] u := by
  unfold fX12_forget
  refine r_aload_n dX12_forget_0 rfl ?_
  refine r_iconst dX12_forget_1 (v := 0) rfl ?_
  refine r_put 47 0 fpX12_3 rfl rfl dX12_forget_2 (r_nx (fun u1 => ?_))
  refine r_aload_n dX12_forget_5 rfl ?_
  refine r_get 47 43 flX12_212 rfl (v := .int (gI u1 47 43)) rfl dX12_forget_6 ?_
  refine r_istore_n dX12_forget_9 (Nat.le_of_ble_eq_true rfl) (ls2 := [some (.ref 47), some (.int (gI u1 47 43))]) rfl ?_
  refine r_aload_n dX12_forget_10 rfl ?_
  refine r_iconst dX12_forget_11 (v := 0) rfl ?_
  refine r_put 47 43 fpX12_212 rfl rfl dX12_forget_12 (r_nx (fun u2 => ?_))
  refine r_iload_n dX12_forget_15 rfl ?_
  exact r_ireturn rfl dX12_forget_16
theorem okX12_forget (u : US) : ∀ r, fX12_forget u = some r → MetC mX12_forget 0 [.ref 47] u (tI r) :=
  met_of (by decide +kernel) (Nat.le_of_ble_eq_true rfl) rfl (sX12_forget u)
def fX12_glaze_84 (v1 : Int32) (v2 : Int32) (v3 : Int32) (k55 : Int32 → Int32 → US → Option (Int32 × US)) (v4 : Int32) (v5 : Int32) (u : US) : Option (Int32 × US) :=
  oB (fX12_seenBy 55 v1 v5 u) fun r1 u1 => (if (v2 &&& (r1 ^^^ (-1))) = 0 then (if (v3 &&& r1) = 0 then k55 v5 (v5 + 1) u1 else k55 v4 (v5 + 1) u1) else k55 v4 (v5 + 1) u1)
set_option maxRecDepth 20000 in
theorem sX12_glaze_84 (v1 : Int32) (v2 : Int32) (v3 : Int32) (k55 : Int32 → Int32 → US → Option (Int32 × US)) (hk55 : ∀ (v4 : Int32) (v5 : Int32) (u : US), Sim tI mX12_glaze 9 (k55 v4 v5 u) 55 [some (.ref 47), some (.int v1), some (.int v2), some (.int v3), some (.int v4), some (.int v5), none] [] u) (v4 : Int32) (v5 : Int32) (u : US) : Sim tI mX12_glaze 9 (fX12_glaze_84 v1 v2 v3 k55 v4 v5 u) 84 [some (.ref 47), some (.int v1), some (.int v2), some (.int v3), some (.int v4), some (.int v5), none] [] u := by
  unfold fX12_glaze_84
  refine r_aload_n dX12_glaze_84 rfl ?_
  refine r_aload_n dX12_glaze_85 rfl ?_
  refine r_get 47 15 flX12_49 rfl (v := .ref 55) rfl dX12_glaze_86 ?_
  refine r_iload_n dX12_glaze_89 rfl ?_
  refine r_iload dX12_glaze_90 rfl ?_
  refine c_VI (As := [.ref 55, .int v1, .int v5]) kvX12_328 rfl (by decide) (okX12_seenBy 55 v1 v5 u) rfl (Nat.le_of_ble_eq_true rfl) rfl dX12_glaze_92 (fun r1 u1 => ?_)
  refine r_istore dX12_glaze_95 (Nat.le_of_ble_eq_true rfl) (ls2 := [some (.ref 47), some (.int v1), some (.int v2), some (.int v3), some (.int v4), some (.int v5), some (.int r1)]) rfl ?_
  refine r_iload_n dX12_glaze_97 rfl ?_
  refine r_iload dX12_glaze_98 rfl ?_
  refine r_iconst dX12_glaze_100 (v := -1) rfl ?_
  refine r_ixor dX12_glaze_101 ?_
  refine r_iand dX12_glaze_102 ?_
  refine r_if_ne dX12_glaze_103 (tgt := 118) rfl ?_ ?_
  · refine r_iload dX12_glaze_118 rfl ?_
    refine r_istore dX12_glaze_120 (Nat.le_of_ble_eq_true rfl) (ls2 := [some (.ref 47), some (.int v1), some (.int v2), some (.int v3), some (.int v4), some (.int v5), some (.int r1)]) rfl ?_
    refine r_iinc dX12_glaze_122 (Nat.le_of_ble_eq_true rfl) rfl (v := v5 + 1) rfl (ls2 := [some (.ref 47), some (.int v1), some (.int v2), some (.int v3), some (.int v4), some (.int (v5 + 1)), some (.int r1)]) rfl ?_
    refine r_goto dX12_glaze_125 (tgt := 55) rfl ?_
    refine r_mk [true, true, true, true, true, true, false] (ls2 := [some (.ref 47), some (.int v1), some (.int v2), some (.int v3), some (.int v4), some (.int (v5 + 1)), none]) rfl ?_
    exact hk55 v4 (v5 + 1) u1
  · refine r_iload_n dX12_glaze_106 rfl ?_
    refine r_iload dX12_glaze_107 rfl ?_
    refine r_iand dX12_glaze_109 ?_
    refine r_if_ne dX12_glaze_110 (tgt := 118) rfl ?_ ?_
    · refine r_iload dX12_glaze_118 rfl ?_
      refine r_istore dX12_glaze_120 (Nat.le_of_ble_eq_true rfl) (ls2 := [some (.ref 47), some (.int v1), some (.int v2), some (.int v3), some (.int v4), some (.int v5), some (.int r1)]) rfl ?_
      refine r_iinc dX12_glaze_122 (Nat.le_of_ble_eq_true rfl) rfl (v := v5 + 1) rfl (ls2 := [some (.ref 47), some (.int v1), some (.int v2), some (.int v3), some (.int v4), some (.int (v5 + 1)), some (.int r1)]) rfl ?_
      refine r_goto dX12_glaze_125 (tgt := 55) rfl ?_
      refine r_mk [true, true, true, true, true, true, false] (ls2 := [some (.ref 47), some (.int v1), some (.int v2), some (.int v3), some (.int v4), some (.int (v5 + 1)), none]) rfl ?_
      exact hk55 v4 (v5 + 1) u1
    · refine r_iload dX12_glaze_113 rfl ?_
      refine r_goto dX12_glaze_115 (tgt := 120) rfl ?_
      refine r_istore dX12_glaze_120 (Nat.le_of_ble_eq_true rfl) (ls2 := [some (.ref 47), some (.int v1), some (.int v2), some (.int v3), some (.int v5), some (.int v5), some (.int r1)]) rfl ?_
      refine r_iinc dX12_glaze_122 (Nat.le_of_ble_eq_true rfl) rfl (v := v5 + 1) rfl (ls2 := [some (.ref 47), some (.int v1), some (.int v2), some (.int v3), some (.int v5), some (.int (v5 + 1)), some (.int r1)]) rfl ?_
      refine r_goto dX12_glaze_125 (tgt := 55) rfl ?_
      refine r_mk [true, true, true, true, true, true, false] (ls2 := [some (.ref 47), some (.int v1), some (.int v2), some (.int v3), some (.int v5), some (.int (v5 + 1)), none]) rfl ?_
      exact hk55 v5 (v5 + 1) u1
def fX12_glaze_55 (v1 : Int32) (v2 : Int32) (v3 : Int32) : Nat → Int32 → Int32 → US → Option (Int32 × US)
  | 0, _, _, _ => none
  | n + 1, v4, v5, u => (if (1 <<< ((gI u 47 6) &&& 31)) ≤ v5 then (if 0 ≤ v4 then nx (sI u 47 1 0) fun u1 => oV (fX12_enters ((v4 : Int32).toInt64) u1) fun u2 => oB (fJ6_bitCount_0f7a4 v4 u2) fun r3 u3 => some (r3, u3) else some ((-2), u)) else (if v4 < 0 then fX12_glaze_84 v1 v2 v3 (fX12_glaze_55 v1 v2 v3 n) v4 v5 u else oB (fJ6_bitCount_0f7a4 v5 u) fun r4 u4 => oB (fJ6_bitCount_0f7a4 v4 u4) fun r5 u5 => (if r5 ≤ r4 then fX12_glaze_55 v1 v2 v3 n v4 (v5 + 1) u5 else fX12_glaze_84 v1 v2 v3 (fX12_glaze_55 v1 v2 v3 n) v4 v5 u5)))
set_option maxRecDepth 20000 in
theorem sX12_glaze_55 (v1 : Int32) (v2 : Int32) (v3 : Int32) : ∀ (n : Nat) (v4 : Int32) (v5 : Int32) (u : US), Sim tI mX12_glaze 9 (fX12_glaze_55 v1 v2 v3 n v4 v5 u) 55 [some (.ref 47), some (.int v1), some (.int v2), some (.int v3), some (.int v4), some (.int v5), none] [] u := by
  intro n
  induction n with
  | zero =>
    intro v4 v5 u
    rw [fX12_glaze_55.eq_1]
    exact r_none
  | succ n ih =>
    intro v4 v5 u
    rw [fX12_glaze_55.eq_2]
    refine r_iload dX12_glaze_55 rfl ?_
    refine r_iconst dX12_glaze_57 (v := 1) rfl ?_
    refine r_aload_n dX12_glaze_58 rfl ?_
    refine r_get 47 6 flX12_147 rfl (v := .int (gI u 47 6)) rfl dX12_glaze_59 ?_
    refine r_ishl dX12_glaze_62 ?_
    refine r_icmp_ge dX12_glaze_63 (tgt := 128) rfl ?_ ?_
    · refine r_iload dX12_glaze_128 rfl ?_
      refine r_if_ge dX12_glaze_130 (tgt := 136) rfl ?_ ?_
      · refine r_aload_n dX12_glaze_136 rfl ?_
        refine r_iconst dX12_glaze_137 (v := 0) rfl ?_
        refine r_put 47 1 fpX12_15 rfl rfl dX12_glaze_138 (r_nx (fun u1 => ?_))
        refine r_aload_n dX12_glaze_141 rfl ?_
        refine r_iload dX12_glaze_142 rfl ?_
        refine r_i2l dX12_glaze_144 ?_
        refine c_VV (As := [.long ((v4 : Int32).toInt64)]) kvX12_387 rfl (by decide) (okX12_enters ((v4 : Int32).toInt64) u1) rfl (Nat.le_of_ble_eq_true rfl) rfl dX12_glaze_145 (fun u2 => ?_)
        refine r_iload dX12_glaze_148 rfl ?_
        refine c_SI (As := [.int v4]) ksX12_300 (by decide) (okJ6_bitCount_0f7a4 v4 u2) rfl (Nat.le_of_ble_eq_true rfl) rfl dX12_glaze_150 (fun r3 u3 => ?_)
        exact r_ireturn rfl dX12_glaze_153
      · refine r_bipush dX12_glaze_133 (v := -2) rfl ?_
        exact r_ireturn rfl dX12_glaze_135
    · refine r_iload dX12_glaze_66 rfl ?_
      refine r_if_lt dX12_glaze_68 (tgt := 84) rfl ?_ ?_
      · exact sX12_glaze_84 v1 v2 v3 (fX12_glaze_55 v1 v2 v3 n) ih v4 v5 u
      · refine r_iload dX12_glaze_71 rfl ?_
        refine c_SI (As := [.int v5]) ksX12_300 (by decide) (okJ6_bitCount_0f7a4 v5 u) rfl (Nat.le_of_ble_eq_true rfl) rfl dX12_glaze_73 (fun r4 u4 => ?_)
        refine r_iload dX12_glaze_76 rfl ?_
        refine c_SI (As := [.int v4]) ksX12_300 (by decide) (okJ6_bitCount_0f7a4 v4 u4) rfl (Nat.le_of_ble_eq_true rfl) rfl dX12_glaze_78 (fun r5 u5 => ?_)
        refine r_icmp_ge dX12_glaze_81 (tgt := 122) rfl ?_ ?_
        · refine r_iinc dX12_glaze_122 (Nat.le_of_ble_eq_true rfl) rfl (v := v5 + 1) rfl (ls2 := [some (.ref 47), some (.int v1), some (.int v2), some (.int v3), some (.int v4), some (.int (v5 + 1)), none]) rfl ?_
          refine r_goto dX12_glaze_125 (tgt := 55) rfl ?_
          exact ih v4 (v5 + 1) u5
        · exact sX12_glaze_84 v1 v2 v3 (fX12_glaze_55 v1 v2 v3 n) ih v4 v5 u5
def fX12_glaze (v1 : Int32) (v2 : Int32) (v3 : Int32) (u : US) : Option (Int32 × US) :=
  nx (sI u 47 0 0) fun u1 => oB (fX12_isRoom v1 u1) fun r2 u2 => (if r2 = 0 then some ((-1), u2) else oB (fX12_all (gI u2 47 5) u2) fun r3 u3 => oB (fX12_in ((v2 : Int32).toInt64) 0 ((r3 : Int32).toInt64) u3) fun r4 u4 => (if r4 = 0 then some ((-1), u4) else oB (fX12_all (gI u4 47 5) u4) fun r5 u5 => oB (fX12_in ((v3 : Int32).toInt64) 0 ((r5 : Int32).toInt64) u5) fun r6 u6 => (if r6 = 0 then some ((-1), u6) else fX12_glaze_55 v1 v2 v3 FU (-1) 0 u6)))
set_option maxRecDepth 20000 in
theorem sX12_glaze (v1 : Int32) (v2 : Int32) (v3 : Int32) (u : US) : Sim tI mX12_glaze 9 (fX12_glaze v1 v2 v3 u) 0 [some (.ref 47), some (.int v1), some (.int v2), some (.int v3), none, none, none] [] u := by
  unfold fX12_glaze
  refine r_aload_n dX12_glaze_0 rfl ?_
  refine r_iconst dX12_glaze_1 (v := 0) rfl ?_
  refine r_put 47 0 fpX12_3 rfl rfl dX12_glaze_2 (r_nx (fun u1 => ?_))
  refine r_aload_n dX12_glaze_5 rfl ?_
  refine r_iload_n dX12_glaze_6 rfl ?_
  refine c_VI (As := [.int v1]) kvX12_346 rfl (by decide) (okX12_isRoom v1 u1) rfl (Nat.le_of_ble_eq_true rfl) rfl dX12_glaze_7 (fun r2 u2 => ?_)
  refine r_if_eq dX12_glaze_10 (tgt := 47) rfl ?_ ?_
  · refine r_iconst dX12_glaze_47 (v := -1) rfl ?_
    exact r_ireturn rfl dX12_glaze_48
  · refine r_iload_n dX12_glaze_13 rfl ?_
    refine r_i2l dX12_glaze_14 ?_
    refine r_lconst dX12_glaze_15 (v := 0) rfl ?_
    refine r_aload_n dX12_glaze_16 rfl ?_
    refine r_get 47 5 flX12_140 rfl (v := .int (gI u2 47 5)) rfl dX12_glaze_17 ?_
    refine c_SI (As := [.int (gI u2 47 5)]) ksX12_410 (by decide) (okX12_all (gI u2 47 5) u2) rfl (Nat.le_of_ble_eq_true rfl) rfl dX12_glaze_20 (fun r3 u3 => ?_)
    refine r_i2l dX12_glaze_23 ?_
    refine c_SI (As := [.long ((v2 : Int32).toInt64), .long 0, .long ((r3 : Int32).toInt64)]) ksX12_143 (by decide) (okX12_in ((v2 : Int32).toInt64) 0 ((r3 : Int32).toInt64) u3) rfl (Nat.le_of_ble_eq_true rfl) rfl dX12_glaze_24 (fun r4 u4 => ?_)
    refine r_if_eq dX12_glaze_27 (tgt := 47) rfl ?_ ?_
    · refine r_iconst dX12_glaze_47 (v := -1) rfl ?_
      exact r_ireturn rfl dX12_glaze_48
    · refine r_iload_n dX12_glaze_30 rfl ?_
      refine r_i2l dX12_glaze_31 ?_
      refine r_lconst dX12_glaze_32 (v := 0) rfl ?_
      refine r_aload_n dX12_glaze_33 rfl ?_
      refine r_get 47 5 flX12_140 rfl (v := .int (gI u4 47 5)) rfl dX12_glaze_34 ?_
      refine c_SI (As := [.int (gI u4 47 5)]) ksX12_410 (by decide) (okX12_all (gI u4 47 5) u4) rfl (Nat.le_of_ble_eq_true rfl) rfl dX12_glaze_37 (fun r5 u5 => ?_)
      refine r_i2l dX12_glaze_40 ?_
      refine c_SI (As := [.long ((v3 : Int32).toInt64), .long 0, .long ((r5 : Int32).toInt64)]) ksX12_143 (by decide) (okX12_in ((v3 : Int32).toInt64) 0 ((r5 : Int32).toInt64) u5) rfl (Nat.le_of_ble_eq_true rfl) rfl dX12_glaze_41 (fun r6 u6 => ?_)
      refine r_if_ne dX12_glaze_44 (tgt := 49) rfl ?_ ?_
      · refine r_iconst dX12_glaze_49 (v := -1) rfl ?_
        refine r_istore dX12_glaze_50 (Nat.le_of_ble_eq_true rfl) (ls2 := [some (.ref 47), some (.int v1), some (.int v2), some (.int v3), some (.int (-1)), none, none]) rfl ?_
        refine r_iconst dX12_glaze_52 (v := 0) rfl ?_
        refine r_istore dX12_glaze_53 (Nat.le_of_ble_eq_true rfl) (ls2 := [some (.ref 47), some (.int v1), some (.int v2), some (.int v3), some (.int (-1)), some (.int 0), none]) rfl ?_
        exact sX12_glaze_55 v1 v2 v3 FU (-1) 0 u6
      · refine r_iconst dX12_glaze_47 (v := -1) rfl ?_
        exact r_ireturn rfl dX12_glaze_48
theorem okX12_glaze (v1 : Int32) (v2 : Int32) (v3 : Int32) (u : US) : ∀ r, fX12_glaze v1 v2 v3 u = some r → MetC mX12_glaze 9 [.ref 47, .int v1, .int v2, .int v3] u (tI r) :=
  met_of (by decide +kernel) (Nat.le_of_ble_eq_true rfl) rfl (sX12_glaze v1 v2 v3 u)
def fX12_hang (v1 : Int32) (v2 : Int32) (u : US) : Option (Int32 × US) :=
  nx (sI u 47 0 0) fun u1 => oV (fX12_putsBy u1) fun u2 => oB (fX12_hangs 55 v1 v2 u2) fun r3 u3 => oB (fX12_counted r3 u3) fun r4 u4 => some (r4, u4)
set_option maxRecDepth 20000 in
theorem sX12_hang (v1 : Int32) (v2 : Int32) (u : US) : Sim tI mX12_hang 3 (fX12_hang v1 v2 u) 0 [some (.ref 47), some (.int v1), some (.int v2)] [] u := by
  unfold fX12_hang
  refine r_aload_n dX12_hang_0 rfl ?_
  refine r_iconst dX12_hang_1 (v := 0) rfl ?_
  refine r_put 47 0 fpX12_3 rfl rfl dX12_hang_2 (r_nx (fun u1 => ?_))
  refine r_aload_n dX12_hang_5 rfl ?_
  refine c_VV (As := []) kvX12_367 rfl (by decide) (okX12_putsBy u1) rfl (Nat.le_of_ble_eq_true rfl) rfl dX12_hang_6 (fun u2 => ?_)
  refine r_aload_n dX12_hang_9 rfl ?_
  refine r_aload_n dX12_hang_10 rfl ?_
  refine r_aload_n dX12_hang_11 rfl ?_
  refine r_get 47 15 flX12_49 rfl (v := .ref 55) rfl dX12_hang_12 ?_
  refine r_iload_n dX12_hang_15 rfl ?_
  refine r_iload_n dX12_hang_16 rfl ?_
  refine c_VI (As := [.ref 55, .int v1, .int v2]) kvX12_370 rfl (by decide) (okX12_hangs 55 v1 v2 u2) rfl (Nat.le_of_ble_eq_true rfl) rfl dX12_hang_17 (fun r3 u3 => ?_)
  refine c_VI (As := [.int r3]) kvX12_373 rfl (by decide) (okX12_counted r3 u3) rfl (Nat.le_of_ble_eq_true rfl) rfl dX12_hang_20 (fun r4 u4 => ?_)
  exact r_ireturn rfl dX12_hang_23
theorem okX12_hang (v1 : Int32) (v2 : Int32) (u : US) : ∀ r, fX12_hang v1 v2 u = some r → MetC mX12_hang 3 [.ref 47, .int v1, .int v2] u (tI r) :=
  met_of (by decide +kernel) (Nat.le_of_ble_eq_true rfl) rfl (sX12_hang v1 v2 u)
def fX12_hidden_17 : Nat → Int32 → Int32 → Int32 → US → Option (Int32 × US)
  | 0, _, _, _, _ => none
  | n + 1, v1, v2, v3, u => (if (gI u 47 7) ≤ v3 then oB (fX12_all (gI u 47 5) u) fun r1 u1 => nx (sI u1 47 1 0) fun u2 => oB (fJ6_bitCount_0f7a4 (r1 &&& (v1 ^^^ (-1))) u2) fun r3 u3 => oV (fX12_enters ((r3 : Int32).toInt64) u3) fun u4 => oV (fX12_enters ((v2 : Int32).toInt64) u4) fun u5 => some (r1 &&& (v1 ^^^ (-1)), u5) else oB (fX12_seen 55 v3 u) fun r6 u6 => oB (fX12_seen 55 v3 u6) fun r7 u7 => fX12_hidden_17 n (v1 ||| r6) (v2 &&& r7) (v3 + 1) u7)
set_option maxRecDepth 20000 in
theorem sX12_hidden_17 : ∀ (n : Nat) (v1 : Int32) (v2 : Int32) (v3 : Int32) (u : US), Sim tI mX12_hidden 10 (fX12_hidden_17 n v1 v2 v3 u) 17 [some (.ref 47), some (.int v1), some (.int v2), some (.int v3)] [] u := by
  intro n
  induction n with
  | zero =>
    intro v1 v2 v3 u
    rw [fX12_hidden_17.eq_1]
    exact r_none
  | succ n ih =>
    intro v1 v2 v3 u
    rw [fX12_hidden_17.eq_2]
    refine r_iload_n dX12_hidden_17 rfl ?_
    refine r_aload_n dX12_hidden_18 rfl ?_
    refine r_get 47 7 flX12_150 rfl (v := .int (gI u 47 7)) rfl dX12_hidden_19 ?_
    refine r_icmp_ge dX12_hidden_22 (tgt := 55) rfl ?_ ?_
    · refine r_aload_n dX12_hidden_55 rfl ?_
      refine r_get 47 5 flX12_140 rfl (v := .int (gI u 47 5)) rfl dX12_hidden_56 ?_
      refine c_SI (As := [.int (gI u 47 5)]) ksX12_410 (by decide) (okX12_all (gI u 47 5) u) rfl (Nat.le_of_ble_eq_true rfl) rfl dX12_hidden_59 (fun r1 u1 => ?_)
      refine r_iload_n dX12_hidden_62 rfl ?_
      refine r_iconst dX12_hidden_63 (v := -1) rfl ?_
      refine r_ixor dX12_hidden_64 ?_
      refine r_iand dX12_hidden_65 ?_
      refine r_istore_n dX12_hidden_66 (Nat.le_of_ble_eq_true rfl) (ls2 := [some (.ref 47), some (.int v1), some (.int v2), some (.int (r1 &&& (v1 ^^^ (-1))))]) rfl ?_
      refine r_aload_n dX12_hidden_67 rfl ?_
      refine r_iconst dX12_hidden_68 (v := 0) rfl ?_
      refine r_put 47 1 fpX12_15 rfl rfl dX12_hidden_69 (r_nx (fun u2 => ?_))
      refine r_aload_n dX12_hidden_72 rfl ?_
      refine r_iload_n dX12_hidden_73 rfl ?_
      refine c_SI (As := [.int (r1 &&& (v1 ^^^ (-1)))]) ksX12_300 (by decide) (okJ6_bitCount_0f7a4 (r1 &&& (v1 ^^^ (-1))) u2) rfl (Nat.le_of_ble_eq_true rfl) rfl dX12_hidden_74 (fun r3 u3 => ?_)
      refine r_i2l dX12_hidden_77 ?_
      refine c_VV (As := [.long ((r3 : Int32).toInt64)]) kvX12_387 rfl (by decide) (okX12_enters ((r3 : Int32).toInt64) u3) rfl (Nat.le_of_ble_eq_true rfl) rfl dX12_hidden_78 (fun u4 => ?_)
      refine r_aload_n dX12_hidden_81 rfl ?_
      refine r_iload_n dX12_hidden_82 rfl ?_
      refine r_i2l dX12_hidden_83 ?_
      refine c_VV (As := [.long ((v2 : Int32).toInt64)]) kvX12_387 rfl (by decide) (okX12_enters ((v2 : Int32).toInt64) u4) rfl (Nat.le_of_ble_eq_true rfl) rfl dX12_hidden_84 (fun u5 => ?_)
      refine r_iload_n dX12_hidden_87 rfl ?_
      exact r_ireturn rfl dX12_hidden_88
    · refine r_iload_n dX12_hidden_25 rfl ?_
      refine r_aload_n dX12_hidden_26 rfl ?_
      refine r_aload_n dX12_hidden_27 rfl ?_
      refine r_get 47 15 flX12_49 rfl (v := .ref 55) rfl dX12_hidden_28 ?_
      refine r_iload_n dX12_hidden_31 rfl ?_
      refine c_VI (As := [.ref 55, .int v3]) kvX12_340 rfl (by decide) (okX12_seen 55 v3 u) rfl (Nat.le_of_ble_eq_true rfl) rfl dX12_hidden_32 (fun r6 u6 => ?_)
      refine r_ior dX12_hidden_35 ?_
      refine r_istore_n dX12_hidden_36 (Nat.le_of_ble_eq_true rfl) (ls2 := [some (.ref 47), some (.int (v1 ||| r6)), some (.int v2), some (.int v3)]) rfl ?_
      refine r_iload_n dX12_hidden_37 rfl ?_
      refine r_aload_n dX12_hidden_38 rfl ?_
      refine r_aload_n dX12_hidden_39 rfl ?_
      refine r_get 47 15 flX12_49 rfl (v := .ref 55) rfl dX12_hidden_40 ?_
      refine r_iload_n dX12_hidden_43 rfl ?_
      refine c_VI (As := [.ref 55, .int v3]) kvX12_340 rfl (by decide) (okX12_seen 55 v3 u6) rfl (Nat.le_of_ble_eq_true rfl) rfl dX12_hidden_44 (fun r7 u7 => ?_)
      refine r_iand dX12_hidden_47 ?_
      refine r_istore_n dX12_hidden_48 (Nat.le_of_ble_eq_true rfl) (ls2 := [some (.ref 47), some (.int (v1 ||| r6)), some (.int (v2 &&& r7)), some (.int v3)]) rfl ?_
      refine r_iinc dX12_hidden_49 (Nat.le_of_ble_eq_true rfl) rfl (v := v3 + 1) rfl (ls2 := [some (.ref 47), some (.int (v1 ||| r6)), some (.int (v2 &&& r7)), some (.int (v3 + 1))]) rfl ?_
      refine r_goto dX12_hidden_52 (tgt := 17) rfl ?_
      exact ih (v1 ||| r6) (v2 &&& r7) (v3 + 1) u7
def fX12_hidden (u : US) : Option (Int32 × US) :=
  nx (sI u 47 0 0) fun u1 => oB (fX12_all (gI u1 47 5) u1) fun r2 u2 => fX12_hidden_17 FU 0 r2 0 u2
set_option maxRecDepth 20000 in
theorem sX12_hidden (u : US) : Sim tI mX12_hidden 10 (fX12_hidden u) 0 [some (.ref 47), none, none, none] [] u := by
  unfold fX12_hidden
  refine r_aload_n dX12_hidden_0 rfl ?_
  refine r_iconst dX12_hidden_1 (v := 0) rfl ?_
  refine r_put 47 0 fpX12_3 rfl rfl dX12_hidden_2 (r_nx (fun u1 => ?_))
  refine r_iconst dX12_hidden_5 (v := 0) rfl ?_
  refine r_istore_n dX12_hidden_6 (Nat.le_of_ble_eq_true rfl) (ls2 := [some (.ref 47), some (.int 0), none, none]) rfl ?_
  refine r_aload_n dX12_hidden_7 rfl ?_
  refine r_get 47 5 flX12_140 rfl (v := .int (gI u1 47 5)) rfl dX12_hidden_8 ?_
  refine c_SI (As := [.int (gI u1 47 5)]) ksX12_410 (by decide) (okX12_all (gI u1 47 5) u1) rfl (Nat.le_of_ble_eq_true rfl) rfl dX12_hidden_11 (fun r2 u2 => ?_)
  refine r_istore_n dX12_hidden_14 (Nat.le_of_ble_eq_true rfl) (ls2 := [some (.ref 47), some (.int 0), some (.int r2), none]) rfl ?_
  refine r_iconst dX12_hidden_15 (v := 0) rfl ?_
  refine r_istore_n dX12_hidden_16 (Nat.le_of_ble_eq_true rfl) (ls2 := [some (.ref 47), some (.int 0), some (.int r2), some (.int 0)]) rfl ?_
  exact sX12_hidden_17 FU 0 r2 0 u2
theorem okX12_hidden (u : US) : ∀ r, fX12_hidden u = some r → MetC mX12_hidden 10 [.ref 47] u (tI r) :=
  met_of (by decide +kernel) (Nat.le_of_ble_eq_true rfl) rfl (sX12_hidden u)
def fX12_hours_108 (v1 : Int32) : Nat → Int32 → US → Option (Int32 × US)
  | 0, _, _ => none
  | n + 1, v2, u => (if (gI u 47 7) ≤ v2 then gd (inb 25 26) (oB (fX12_puts (gA u 55 25) u) fun r1 u1 => some (r1, u1)) else gd (inb v2 4) (oV (fX12_enters ((gA u 64 v2 : Int32).toInt64) u) fun u2 => fX12_hours_108 v1 n (v2 + 1) u2))
set_option maxRecDepth 20000 in
theorem sX12_hours_108 (v1 : Int32) : ∀ (n : Nat) (v2 : Int32) (u : US), Sim tI mX12_hours 10 (fX12_hours_108 v1 n v2 u) 108 [some (.ref 47), some (.int v1), some (.int v2), none] [] u := by
  intro n
  induction n with
  | zero =>
    intro v2 u
    rw [fX12_hours_108.eq_1]
    exact r_none
  | succ n ih =>
    intro v2 u
    rw [fX12_hours_108.eq_2]
    refine r_iload_n dX12_hours_108 rfl ?_
    refine r_aload_n dX12_hours_109 rfl ?_
    refine r_get 47 7 flX12_150 rfl (v := .int (gI u 47 7)) rfl dX12_hours_110 ?_
    refine r_icmp_ge dX12_hours_113 (tgt := 133) rfl ?_ ?_
    · refine r_aload_n dX12_hours_133 rfl ?_
      refine r_aload_n dX12_hours_134 rfl ?_
      refine r_get 47 15 flX12_49 rfl (v := .ref 55) rfl dX12_hours_135 ?_
      refine r_bipush dX12_hours_138 (v := 25) rfl ?_
      refine r_iald 55 rfl dX12_hours_140 ?_
      refine c_VI (As := [.int (gA u 55 25)]) kvX12_354 rfl (by decide) (okX12_puts (gA u 55 25) u) rfl (Nat.le_of_ble_eq_true rfl) rfl dX12_hours_141 (fun r1 u1 => ?_)
      exact r_ireturn rfl dX12_hours_144
    · refine r_aload_n dX12_hours_116 rfl ?_
      refine r_aload_n dX12_hours_117 rfl ?_
      refine r_get 47 32 flX12_76 rfl (v := .ref 64) rfl dX12_hours_118 ?_
      refine r_iload_n dX12_hours_121 rfl ?_
      refine r_iald 64 rfl dX12_hours_122 ?_
      refine r_i2l dX12_hours_123 ?_
      refine c_VV (As := [.long ((gA u 64 v2 : Int32).toInt64)]) kvX12_387 rfl (by decide) (okX12_enters ((gA u 64 v2 : Int32).toInt64) u) rfl (Nat.le_of_ble_eq_true rfl) rfl dX12_hours_124 (fun u2 => ?_)
      refine r_iinc dX12_hours_127 (Nat.le_of_ble_eq_true rfl) rfl (v := v2 + 1) rfl (ls2 := [some (.ref 47), some (.int v1), some (.int (v2 + 1)), none]) rfl ?_
      refine r_goto dX12_hours_130 (tgt := 108) rfl ?_
      exact ih (v2 + 1) u2
def fX12_hours_63 (v1 : Int32) (k48 : Int32 → US → Option (Int32 × US)) : Nat → Int32 → Int32 → US → Option (Int32 × US)
  | 0, _, _, _ => none
  | n + 1, v2, v3, u => (if (gI u 47 7) ≤ v3 then k48 (v2 + 1) u else gd (inb v3 4) (oB (fX12_seen 55 v3 u) fun r1 u1 => gd (inb v3 4) (nx (sA u1 64 v3 ((gA u 64 v3) ||| r1)) fun u2 => fX12_hours_63 v1 k48 n v2 (v3 + 1) u2)))
set_option maxRecDepth 20000 in
theorem sX12_hours_63 (v1 : Int32) (k48 : Int32 → US → Option (Int32 × US)) (hk48 : ∀ (v2 : Int32) (u : US), Sim tI mX12_hours 10 (k48 v2 u) 48 [some (.ref 47), some (.int v1), some (.int v2), none] [] u) : ∀ (n : Nat) (v2 : Int32) (v3 : Int32) (u : US), Sim tI mX12_hours 10 (fX12_hours_63 v1 k48 n v2 v3 u) 63 [some (.ref 47), some (.int v1), some (.int v2), some (.int v3)] [] u := by
  intro n
  induction n with
  | zero =>
    intro v2 v3 u
    rw [fX12_hours_63.eq_1]
    exact r_none
  | succ n ih =>
    intro v2 v3 u
    rw [fX12_hours_63.eq_2]
    refine r_iload_n dX12_hours_63 rfl ?_
    refine r_aload_n dX12_hours_64 rfl ?_
    refine r_get 47 7 flX12_150 rfl (v := .int (gI u 47 7)) rfl dX12_hours_65 ?_
    refine r_icmp_ge dX12_hours_68 (tgt := 95) rfl ?_ ?_
    · refine r_iinc dX12_hours_95 (Nat.le_of_ble_eq_true rfl) rfl (v := v2 + 1) rfl (ls2 := [some (.ref 47), some (.int v1), some (.int (v2 + 1)), some (.int v3)]) rfl ?_
      refine r_goto dX12_hours_98 (tgt := 48) rfl ?_
      refine r_mk [true, true, true, false] (ls2 := [some (.ref 47), some (.int v1), some (.int (v2 + 1)), none]) rfl ?_
      exact hk48 (v2 + 1) u
    · refine r_aload_n dX12_hours_71 rfl ?_
      refine r_get 47 32 flX12_76 rfl (v := .ref 64) rfl dX12_hours_72 ?_
      refine r_iload_n dX12_hours_75 rfl ?_
      refine r_dup2 dX12_hours_76 rfl rfl ?_
      refine r_iald 64 rfl dX12_hours_77 ?_
      refine r_aload_n dX12_hours_78 rfl ?_
      refine r_aload_n dX12_hours_79 rfl ?_
      refine r_get 47 15 flX12_49 rfl (v := .ref 55) rfl dX12_hours_80 ?_
      refine r_iload_n dX12_hours_83 rfl ?_
      refine c_VI (As := [.ref 55, .int v3]) kvX12_340 rfl (by decide) (okX12_seen 55 v3 u) rfl (Nat.le_of_ble_eq_true rfl) rfl dX12_hours_84 (fun r1 u1 => ?_)
      refine r_ior dX12_hours_87 ?_
      refine r_iast 64 rfl dX12_hours_88 (r_nx (fun u2 => ?_))
      refine r_iinc dX12_hours_89 (Nat.le_of_ble_eq_true rfl) rfl (v := v3 + 1) rfl (ls2 := [some (.ref 47), some (.int v1), some (.int v2), some (.int (v3 + 1))]) rfl ?_
      refine r_goto dX12_hours_92 (tgt := 63) rfl ?_
      exact ih v2 (v3 + 1) u2
def fX12_hours_48 (v1 : Int32) : Nat → Int32 → US → Option (Int32 × US)
  | 0, _, _ => none
  | n + 1, v2, u => (if v1 ≤ v2 then nx (sI u 47 1 0) fun u1 => fX12_hours_108 v1 FU 0 u1 else oV (fX12_hourGoes 55 u) fun u2 => fX12_hours_63 v1 (fX12_hours_48 v1 n) FU v2 0 u2)
set_option maxRecDepth 20000 in
theorem sX12_hours_48 (v1 : Int32) : ∀ (n : Nat) (v2 : Int32) (u : US), Sim tI mX12_hours 10 (fX12_hours_48 v1 n v2 u) 48 [some (.ref 47), some (.int v1), some (.int v2), none] [] u := by
  intro n
  induction n with
  | zero =>
    intro v2 u
    rw [fX12_hours_48.eq_1]
    exact r_none
  | succ n ih =>
    intro v2 u
    rw [fX12_hours_48.eq_2]
    refine r_iload_n dX12_hours_48 rfl ?_
    refine r_iload_n dX12_hours_49 rfl ?_
    refine r_icmp_ge dX12_hours_50 (tgt := 101) rfl ?_ ?_
    · refine r_aload_n dX12_hours_101 rfl ?_
      refine r_iconst dX12_hours_102 (v := 0) rfl ?_
      refine r_put 47 1 fpX12_15 rfl rfl dX12_hours_103 (r_nx (fun u1 => ?_))
      refine r_iconst dX12_hours_106 (v := 0) rfl ?_
      refine r_istore_n dX12_hours_107 (Nat.le_of_ble_eq_true rfl) (ls2 := [some (.ref 47), some (.int v1), some (.int 0), none]) rfl ?_
      exact sX12_hours_108 v1 FU 0 u1
    · refine r_aload_n dX12_hours_53 rfl ?_
      refine r_aload_n dX12_hours_54 rfl ?_
      refine r_get 47 15 flX12_49 rfl (v := .ref 55) rfl dX12_hours_55 ?_
      refine c_VV (As := [.ref 55]) kvX12_360 rfl (by decide) (okX12_hourGoes 55 u) rfl (Nat.le_of_ble_eq_true rfl) rfl dX12_hours_58 (fun u2 => ?_)
      refine r_iconst dX12_hours_61 (v := 0) rfl ?_
      refine r_istore_n dX12_hours_62 (Nat.le_of_ble_eq_true rfl) (ls2 := [some (.ref 47), some (.int v1), some (.int v2), some (.int 0)]) rfl ?_
      exact sX12_hours_63 v1 (fX12_hours_48 v1 n) ih FU v2 0 u2
def fX12_hours_25 (v1 : Int32) : Nat → Int32 → US → Option (Int32 × US)
  | 0, _, _ => none
  | n + 1, v2, u => (if (gI u 47 7) ≤ v2 then fX12_hours_48 v1 FU 0 u else gd (inb v2 4) (nx (sA u 64 v2 0) fun u1 => fX12_hours_25 v1 n (v2 + 1) u1))
set_option maxRecDepth 20000 in
theorem sX12_hours_25 (v1 : Int32) : ∀ (n : Nat) (v2 : Int32) (u : US), Sim tI mX12_hours 10 (fX12_hours_25 v1 n v2 u) 25 [some (.ref 47), some (.int v1), some (.int v2), none] [] u := by
  intro n
  induction n with
  | zero =>
    intro v2 u
    rw [fX12_hours_25.eq_1]
    exact r_none
  | succ n ih =>
    intro v2 u
    rw [fX12_hours_25.eq_2]
    refine r_iload_n dX12_hours_25 rfl ?_
    refine r_aload_n dX12_hours_26 rfl ?_
    refine r_get 47 7 flX12_150 rfl (v := .int (gI u 47 7)) rfl dX12_hours_27 ?_
    refine r_icmp_ge dX12_hours_30 (tgt := 46) rfl ?_ ?_
    · refine r_iconst dX12_hours_46 (v := 0) rfl ?_
      refine r_istore_n dX12_hours_47 (Nat.le_of_ble_eq_true rfl) (ls2 := [some (.ref 47), some (.int v1), some (.int 0), none]) rfl ?_
      exact sX12_hours_48 v1 FU 0 u
    · refine r_aload_n dX12_hours_33 rfl ?_
      refine r_get 47 32 flX12_76 rfl (v := .ref 64) rfl dX12_hours_34 ?_
      refine r_iload_n dX12_hours_37 rfl ?_
      refine r_iconst dX12_hours_38 (v := 0) rfl ?_
      refine r_iast 64 rfl dX12_hours_39 (r_nx (fun u1 => ?_))
      refine r_iinc dX12_hours_40 (Nat.le_of_ble_eq_true rfl) rfl (v := v2 + 1) rfl (ls2 := [some (.ref 47), some (.int v1), some (.int (v2 + 1)), none]) rfl ?_
      refine r_goto dX12_hours_43 (tgt := 25) rfl ?_
      exact ih (v2 + 1) u1
def fX12_hours (v1 : Int32) (u : US) : Option (Int32 × US) :=
  nx (sI u 47 0 0) fun u1 => oB (fX12_in ((v1 : Int32).toInt64) 0 60 u1) fun r2 u2 => (if r2 = 0 then some ((-1), u2) else oV (fX12_putsBy u2) fun u3 => fX12_hours_25 v1 FU 0 u3)
set_option maxRecDepth 20000 in
theorem sX12_hours (v1 : Int32) (u : US) : Sim tI mX12_hours 10 (fX12_hours v1 u) 0 [some (.ref 47), some (.int v1), none, none] [] u := by
  unfold fX12_hours
  refine r_aload_n dX12_hours_0 rfl ?_
  refine r_iconst dX12_hours_1 (v := 0) rfl ?_
  refine r_put 47 0 fpX12_3 rfl rfl dX12_hours_2 (r_nx (fun u1 => ?_))
  refine r_iload_n dX12_hours_5 rfl ?_
  refine r_i2l dX12_hours_6 ?_
  refine r_lconst dX12_hours_7 (v := 0) rfl ?_
  refine r_ldc2 dX12_hours_8 kJX12_385 ?_
  refine c_SI (As := [.long ((v1 : Int32).toInt64), .long 0, .long 60]) ksX12_143 (by decide) (okX12_in ((v1 : Int32).toInt64) 0 60 u1) rfl (Nat.le_of_ble_eq_true rfl) rfl dX12_hours_11 (fun r2 u2 => ?_)
  refine r_if_ne dX12_hours_14 (tgt := 19) rfl ?_ ?_
  · refine r_aload_n dX12_hours_19 rfl ?_
    refine c_VV (As := []) kvX12_367 rfl (by decide) (okX12_putsBy u2) rfl (Nat.le_of_ble_eq_true rfl) rfl dX12_hours_20 (fun u3 => ?_)
    refine r_iconst dX12_hours_23 (v := 0) rfl ?_
    refine r_istore_n dX12_hours_24 (Nat.le_of_ble_eq_true rfl) (ls2 := [some (.ref 47), some (.int v1), some (.int 0), none]) rfl ?_
    exact sX12_hours_25 v1 FU 0 u3
  · refine r_iconst dX12_hours_17 (v := -1) rfl ?_
    exact r_ireturn rfl dX12_hours_18
theorem okX12_hours (v1 : Int32) (u : US) : ∀ r, fX12_hours v1 u = some r → MetC mX12_hours 10 [.ref 47, .int v1] u (tI r) :=
  met_of (by decide +kernel) (Nat.le_of_ble_eq_true rfl) rfl (sX12_hours v1 u)
def fX12_isNew_36 (s1 : Int32) (s2 : Int32) (u : US) : Option (Int32 × US) :=
  oB (fX12_flag s2 u) fun r1 u1 => nx (sI u1 47 8 (s1 + r1)) fun u2 => some (gI u2 47 23, u2)
set_option maxRecDepth 20000 in
theorem sX12_isNew_36 (s1 : Int32) (s2 : Int32) (u : US) : Sim tI mX12_isNew 1 (fX12_isNew_36 s1 s2 u) 36 [some (.ref 47)] [.int s2, .int s1, .ref 47] u := by
  unfold fX12_isNew_36
  refine c_SI (As := [.int s2]) ksX12_175 (by decide) (okX12_flag s2 u) rfl (Nat.le_of_ble_eq_true rfl) rfl dX12_isNew_36 (fun r1 u1 => ?_)
  refine r_iadd dX12_isNew_39 ?_
  refine r_put 47 8 fpX12_252 rfl rfl dX12_isNew_40 (r_nx (fun u2 => ?_))
  refine r_aload_n dX12_isNew_43 rfl ?_
  refine r_get 47 23 flX12_218 rfl (v := .int (gI u2 47 23)) rfl dX12_isNew_44 ?_
  exact r_ireturn rfl dX12_isNew_47
def fX12_isNew_16 (s1 : Int32) (u : US) : Option (Int32 × US) :=
  nx (sI u 47 30 s1) fun u1 => (if (gI u1 47 23) ≤ 0 then fX12_isNew_36 (gI u1 47 8) 0 u1 else fX12_isNew_36 (gI u1 47 8) 1 u1)
set_option maxRecDepth 20000 in
theorem sX12_isNew_16 (s1 : Int32) (u : US) : Sim tI mX12_isNew 1 (fX12_isNew_16 s1 u) 16 [some (.ref 47)] [.int s1, .ref 47] u := by
  unfold fX12_isNew_16
  refine r_put 47 30 fpX12_215 rfl rfl dX12_isNew_16 (r_nx (fun u1 => ?_))
  refine r_aload_n dX12_isNew_19 rfl ?_
  refine r_dup dX12_isNew_20 rfl ?_
  refine r_get 47 8 flX12_252 rfl (v := .int (gI u1 47 8)) rfl dX12_isNew_21 ?_
  refine r_aload_n dX12_isNew_24 rfl ?_
  refine r_get 47 23 flX12_218 rfl (v := .int (gI u1 47 23)) rfl dX12_isNew_25 ?_
  refine r_if_le dX12_isNew_28 (tgt := 35) rfl ?_ ?_
  · refine r_iconst dX12_isNew_35 (v := 0) rfl ?_
    exact sX12_isNew_36 (gI u1 47 8) 0 u1
  · refine r_iconst dX12_isNew_31 (v := 1) rfl ?_
    refine r_goto dX12_isNew_32 (tgt := 36) rfl ?_
    exact sX12_isNew_36 (gI u1 47 8) 1 u1
def fX12_isNew (u : US) : Option (Int32 × US) :=
  (if (gI u 47 23) ≤ 0 then fX12_isNew_16 (gI u 47 30) u else fX12_isNew_16 0 u)
set_option maxRecDepth 20000 in
theorem sX12_isNew (u : US) : Sim tI mX12_isNew 1 (fX12_isNew u) 0 [some (.ref 47)] [] u := by
  unfold fX12_isNew
  refine r_aload_n dX12_isNew_0 rfl ?_
  refine r_aload_n dX12_isNew_1 rfl ?_
  refine r_get 47 23 flX12_218 rfl (v := .int (gI u 47 23)) rfl dX12_isNew_2 ?_
  refine r_if_le dX12_isNew_5 (tgt := 12) rfl ?_ ?_
  · refine r_aload_n dX12_isNew_12 rfl ?_
    refine r_get 47 30 flX12_215 rfl (v := .int (gI u 47 30)) rfl dX12_isNew_13 ?_
    exact sX12_isNew_16 (gI u 47 30) u
  · refine r_iconst dX12_isNew_8 (v := 0) rfl ?_
    refine r_goto dX12_isNew_9 (tgt := 16) rfl ?_
    exact sX12_isNew_16 0 u
theorem okX12_isNew (u : US) : ∀ r, fX12_isNew u = some r → MetC mX12_isNew 1 [.ref 47] u (tI r) :=
  met_of (by decide +kernel) (Nat.le_of_ble_eq_true rfl) rfl (sX12_isNew u)
def fX12_isRest_5 (v0 : Int32) (v1 : Int32) (v2 : Int32) : Nat → Int32 → Int32 → US → Option (Int32 × US)
  | 0, _, _, _ => none
  | n + 1, v3, v4, u => (if (9 : Int32) < v4 then gd (isB v3) (some (v3, u)) else (if v3 = 0 then fX12_isRest_5 v0 v1 v2 n 0 (v4 + 1) u else if (3 : Int32) = 0 then none else if (3 : Int32) = 0 then none else (if ((v2 * v0) - ((v0 * v1) / 3)) < ((v2 * v4) - ((v4 * v1) / 3)) then fX12_isRest_5 v0 v1 v2 n 0 (v4 + 1) u else if (3 : Int32) = 0 then none else if (3 : Int32) = 0 then none else (if ((v2 * v1) - ((v0 * v1) / 3)) < ((v2 * v4) - ((v4 * v0) / 3)) then fX12_isRest_5 v0 v1 v2 n 0 (v4 + 1) u else fX12_isRest_5 v0 v1 v2 n 1 (v4 + 1) u))))
set_option maxRecDepth 20000 in
theorem sX12_isRest_5 (v0 : Int32) (v1 : Int32) (v2 : Int32) : ∀ (n : Nat) (v3 : Int32) (v4 : Int32) (u : US), Sim tI mX12_isRest 0 (fX12_isRest_5 v0 v1 v2 n v3 v4 u) 5 [some (.int v0), some (.int v1), some (.int v2), some (.int v3), some (.int v4)] [] u := by
  intro n
  induction n with
  | zero =>
    intro v3 v4 u
    rw [fX12_isRest_5.eq_1]
    exact r_none
  | succ n ih =>
    intro v3 v4 u
    rw [fX12_isRest_5.eq_2]
    refine r_iload dX12_isRest_5 rfl ?_
    refine r_bipush dX12_isRest_7 (v := 9) rfl ?_
    refine r_icmp_gt dX12_isRest_9 (tgt := 74) rfl ?_ ?_
    · refine r_iload_n dX12_isRest_74 rfl ?_
      exact r_zreturn rfl dX12_isRest_75
    · refine r_iload_n dX12_isRest_12 rfl ?_
      refine r_if_eq dX12_isRest_13 (tgt := 66) rfl ?_ ?_
      · refine r_iconst dX12_isRest_66 (v := 0) rfl ?_
        refine r_istore_n dX12_isRest_67 (Nat.le_of_ble_eq_true rfl) (ls2 := [some (.int v0), some (.int v1), some (.int v2), some (.int 0), some (.int v4)]) rfl ?_
        refine r_iinc dX12_isRest_68 (Nat.le_of_ble_eq_true rfl) rfl (v := v4 + 1) rfl (ls2 := [some (.int v0), some (.int v1), some (.int v2), some (.int 0), some (.int (v4 + 1))]) rfl ?_
        refine r_goto dX12_isRest_71 (tgt := 5) rfl ?_
        exact ih 0 (v4 + 1) u
      · refine r_iload_n dX12_isRest_16 rfl ?_
        refine r_iload dX12_isRest_17 rfl ?_
        refine r_imul dX12_isRest_19 ?_
        refine r_iload dX12_isRest_20 rfl ?_
        refine r_iload_n dX12_isRest_22 rfl ?_
        refine r_imul dX12_isRest_23 ?_
        refine r_iconst dX12_isRest_24 (v := 3) rfl ?_
        refine r_idiv dX12_isRest_25 ?_
        refine r_isub dX12_isRest_26 ?_
        refine r_iload_n dX12_isRest_27 rfl ?_
        refine r_iload_n dX12_isRest_28 rfl ?_
        refine r_imul dX12_isRest_29 ?_
        refine r_iload_n dX12_isRest_30 rfl ?_
        refine r_iload_n dX12_isRest_31 rfl ?_
        refine r_imul dX12_isRest_32 ?_
        refine r_iconst dX12_isRest_33 (v := 3) rfl ?_
        refine r_idiv dX12_isRest_34 ?_
        refine r_isub dX12_isRest_35 ?_
        refine r_icmp_gt dX12_isRest_36 (tgt := 66) rfl ?_ ?_
        · refine r_iconst dX12_isRest_66 (v := 0) rfl ?_
          refine r_istore_n dX12_isRest_67 (Nat.le_of_ble_eq_true rfl) (ls2 := [some (.int v0), some (.int v1), some (.int v2), some (.int 0), some (.int v4)]) rfl ?_
          refine r_iinc dX12_isRest_68 (Nat.le_of_ble_eq_true rfl) rfl (v := v4 + 1) rfl (ls2 := [some (.int v0), some (.int v1), some (.int v2), some (.int 0), some (.int (v4 + 1))]) rfl ?_
          refine r_goto dX12_isRest_71 (tgt := 5) rfl ?_
          exact ih 0 (v4 + 1) u
        · refine r_iload_n dX12_isRest_39 rfl ?_
          refine r_iload dX12_isRest_40 rfl ?_
          refine r_imul dX12_isRest_42 ?_
          refine r_iload dX12_isRest_43 rfl ?_
          refine r_iload_n dX12_isRest_45 rfl ?_
          refine r_imul dX12_isRest_46 ?_
          refine r_iconst dX12_isRest_47 (v := 3) rfl ?_
          refine r_idiv dX12_isRest_48 ?_
          refine r_isub dX12_isRest_49 ?_
          refine r_iload_n dX12_isRest_50 rfl ?_
          refine r_iload_n dX12_isRest_51 rfl ?_
          refine r_imul dX12_isRest_52 ?_
          refine r_iload_n dX12_isRest_53 rfl ?_
          refine r_iload_n dX12_isRest_54 rfl ?_
          refine r_imul dX12_isRest_55 ?_
          refine r_iconst dX12_isRest_56 (v := 3) rfl ?_
          refine r_idiv dX12_isRest_57 ?_
          refine r_isub dX12_isRest_58 ?_
          refine r_icmp_gt dX12_isRest_59 (tgt := 66) rfl ?_ ?_
          · refine r_iconst dX12_isRest_66 (v := 0) rfl ?_
            refine r_istore_n dX12_isRest_67 (Nat.le_of_ble_eq_true rfl) (ls2 := [some (.int v0), some (.int v1), some (.int v2), some (.int 0), some (.int v4)]) rfl ?_
            refine r_iinc dX12_isRest_68 (Nat.le_of_ble_eq_true rfl) rfl (v := v4 + 1) rfl (ls2 := [some (.int v0), some (.int v1), some (.int v2), some (.int 0), some (.int (v4 + 1))]) rfl ?_
            refine r_goto dX12_isRest_71 (tgt := 5) rfl ?_
            exact ih 0 (v4 + 1) u
          · refine r_iconst dX12_isRest_62 (v := 1) rfl ?_
            refine r_goto dX12_isRest_63 (tgt := 67) rfl ?_
            refine r_istore_n dX12_isRest_67 (Nat.le_of_ble_eq_true rfl) (ls2 := [some (.int v0), some (.int v1), some (.int v2), some (.int 1), some (.int v4)]) rfl ?_
            refine r_iinc dX12_isRest_68 (Nat.le_of_ble_eq_true rfl) rfl (v := v4 + 1) rfl (ls2 := [some (.int v0), some (.int v1), some (.int v2), some (.int 1), some (.int (v4 + 1))]) rfl ?_
            refine r_goto dX12_isRest_71 (tgt := 5) rfl ?_
            exact ih 1 (v4 + 1) u
def fX12_isRest (v0 : Int32) (v1 : Int32) (v2 : Int32) (u : US) : Option (Int32 × US) :=
  fX12_isRest_5 v0 v1 v2 FU 1 0 u
set_option maxRecDepth 20000 in
theorem sX12_isRest (v0 : Int32) (v1 : Int32) (v2 : Int32) (u : US) : Sim tI mX12_isRest 0 (fX12_isRest v0 v1 v2 u) 0 [some (.int v0), some (.int v1), some (.int v2), none, none] [] u := by
  unfold fX12_isRest
  refine r_iconst dX12_isRest_0 (v := 1) rfl ?_
  refine r_istore_n dX12_isRest_1 (Nat.le_of_ble_eq_true rfl) (ls2 := [some (.int v0), some (.int v1), some (.int v2), some (.int 1), none]) rfl ?_
  refine r_iconst dX12_isRest_2 (v := 0) rfl ?_
  refine r_istore dX12_isRest_3 (Nat.le_of_ble_eq_true rfl) (ls2 := [some (.int v0), some (.int v1), some (.int v2), some (.int 1), some (.int 0)]) rfl ?_
  exact sX12_isRest_5 v0 v1 v2 FU 1 0 u
theorem okX12_isRest (v0 : Int32) (v1 : Int32) (v2 : Int32) (u : US) : ∀ r, fX12_isRest v0 v1 v2 u = some r → MetC mX12_isRest 0 [.int v0, .int v1, .int v2] u (tI r) :=
  met_of (by decide +kernel) (Nat.le_of_ble_eq_true rfl) rfl (sX12_isRest v0 v1 v2 u)
def fX12_keep_38 (v1 : Int32) : Nat → Int32 → US → Option (Int32 × US)
  | 0, _, _ => none
  | n + 1, v2, u => (if (26 : Int32) ≤ v2 then some (1, u) else gd (inb v2 26) (gd (inb ((26 * v1) + v2) 78) (nx (sA u 84 ((26 * v1) + v2) (gA u 55 v2)) fun u1 => fX12_keep_38 v1 n (v2 + 1) u1)))
set_option maxRecDepth 20000 in
theorem sX12_keep_38 (v1 : Int32) : ∀ (n : Nat) (v2 : Int32) (u : US), Sim tI mX12_keep 1 (fX12_keep_38 v1 n v2 u) 38 [some (.ref 47), some (.int v1), some (.int v2)] [] u := by
  intro n
  induction n with
  | zero =>
    intro v2 u
    rw [fX12_keep_38.eq_1]
    exact r_none
  | succ n ih =>
    intro v2 u
    rw [fX12_keep_38.eq_2]
    refine r_iload_n dX12_keep_38 rfl ?_
    refine r_bipush dX12_keep_39 (v := 26) rfl ?_
    refine r_icmp_ge dX12_keep_41 (tgt := 67) rfl ?_ ?_
    · refine r_iconst dX12_keep_67 (v := 1) rfl ?_
      exact r_zreturn1 rfl dX12_keep_68
    · refine r_aload_n dX12_keep_44 rfl ?_
      refine r_get 47 56 flX12_137 rfl (v := .ref 84) rfl dX12_keep_45 ?_
      refine r_bipush dX12_keep_48 (v := 26) rfl ?_
      refine r_iload_n dX12_keep_50 rfl ?_
      refine r_imul dX12_keep_51 ?_
      refine r_iload_n dX12_keep_52 rfl ?_
      refine r_iadd dX12_keep_53 ?_
      refine r_aload_n dX12_keep_54 rfl ?_
      refine r_get 47 15 flX12_49 rfl (v := .ref 55) rfl dX12_keep_55 ?_
      refine r_iload_n dX12_keep_58 rfl ?_
      refine r_iald 55 rfl dX12_keep_59 ?_
      refine r_iast 84 rfl dX12_keep_60 (r_nx (fun u1 => ?_))
      refine r_iinc dX12_keep_61 (Nat.le_of_ble_eq_true rfl) rfl (v := v2 + 1) rfl (ls2 := [some (.ref 47), some (.int v1), some (.int (v2 + 1))]) rfl ?_
      refine r_goto dX12_keep_64 (tgt := 38) rfl ?_
      exact ih (v2 + 1) u1
def fX12_keep (v1 : Int32) (u : US) : Option (Int32 × US) :=
  nx (sI u 47 0 0) fun u1 => oB (fX12_in ((v1 : Int32).toInt64) 0 2 u1) fun r2 u2 => (if r2 = 0 then some (0, u2) else gd (inb v1 3) (nx (sA u2 82 v1 (vp_nar .boolean 1)) fun u3 => gd (inb v1 3) (nx (sA u3 83 v1 (gI u3 47 8)) fun u4 => fX12_keep_38 v1 FU 0 u4)))
set_option maxRecDepth 20000 in
theorem sX12_keep (v1 : Int32) (u : US) : Sim tI mX12_keep 1 (fX12_keep v1 u) 0 [some (.ref 47), some (.int v1), none] [] u := by
  unfold fX12_keep
  refine r_aload_n dX12_keep_0 rfl ?_
  refine r_iconst dX12_keep_1 (v := 0) rfl ?_
  refine r_put 47 0 fpX12_3 rfl rfl dX12_keep_2 (r_nx (fun u1 => ?_))
  refine r_iload_n dX12_keep_5 rfl ?_
  refine r_i2l dX12_keep_6 ?_
  refine r_lconst dX12_keep_7 (v := 0) rfl ?_
  refine r_ldc2 dX12_keep_8 kJX12_459 ?_
  refine c_SI (As := [.long ((v1 : Int32).toInt64), .long 0, .long 2]) ksX12_143 (by decide) (okX12_in ((v1 : Int32).toInt64) 0 2 u1) rfl (Nat.le_of_ble_eq_true rfl) rfl dX12_keep_11 (fun r2 u2 => ?_)
  refine r_if_ne dX12_keep_14 (tgt := 19) rfl ?_ ?_
  · refine r_aload_n dX12_keep_19 rfl ?_
    refine r_get 47 54 flX12_131 rfl (v := .ref 82) rfl dX12_keep_20 ?_
    refine r_iload_n dX12_keep_23 rfl ?_
    refine r_iconst dX12_keep_24 (v := 1) rfl ?_
    refine r_zast 82 rfl dX12_keep_25 (r_nx (fun u3 => ?_))
    refine r_aload_n dX12_keep_26 rfl ?_
    refine r_get 47 55 flX12_134 rfl (v := .ref 83) rfl dX12_keep_27 ?_
    refine r_iload_n dX12_keep_30 rfl ?_
    refine r_aload_n dX12_keep_31 rfl ?_
    refine r_get 47 8 flX12_252 rfl (v := .int (gI u3 47 8)) rfl dX12_keep_32 ?_
    refine r_iast 83 rfl dX12_keep_35 (r_nx (fun u4 => ?_))
    refine r_iconst dX12_keep_36 (v := 0) rfl ?_
    refine r_istore_n dX12_keep_37 (Nat.le_of_ble_eq_true rfl) (ls2 := [some (.ref 47), some (.int v1), some (.int 0)]) rfl ?_
    exact sX12_keep_38 v1 FU 0 u4
  · refine r_iconst dX12_keep_17 (v := 0) rfl ?_
    exact r_zreturn0 rfl dX12_keep_18
theorem okX12_keep (v1 : Int32) (u : US) : ∀ r, fX12_keep v1 u = some r → MetC mX12_keep 1 [.ref 47, .int v1] u (tI r) :=
  met_of (by decide +kernel) (Nat.le_of_ble_eq_true rfl) rfl (sX12_keep v1 u)
def fX12_laysCode_7 (v1 : Nat) (v2 : Int32) : Nat → Int32 → US → Option (US)
  | 0, _, _ => none
  | n + 1, v3, u => (if v2 ≤ v3 then some u else gd (inb v3 (ln v1)) (gd (inb v3 80) (nx (sA u 59 v3 (gA u v1 v3)) fun u1 => fX12_laysCode_7 v1 v2 n (v3 + 1) u1)))
set_option maxRecDepth 20000 in
theorem sX12_laysCode_7 (v1 : Nat) (v2 : Int32) (h1 : okA v1 20 = true) : ∀ (n : Nat) (v3 : Int32) (u : US), Sim tV mX12_laysCode 0 (fX12_laysCode_7 v1 v2 n v3 u) 7 [some (.ref 47), some (.ref v1), some (.int v2), some (.int v3)] [] u := by
  intro n
  induction n with
  | zero =>
    intro v3 u
    rw [fX12_laysCode_7.eq_1]
    exact r_none
  | succ n ih =>
    intro v3 u
    rw [fX12_laysCode_7.eq_2]
    refine r_iload_n dX12_laysCode_7 rfl ?_
    refine r_iload_n dX12_laysCode_8 rfl ?_
    refine r_icmp_ge dX12_laysCode_9 (tgt := 27) rfl ?_ ?_
    · exact r_return rfl dX12_laysCode_27
    · refine r_aload_n dX12_laysCode_12 rfl ?_
      refine r_get 47 24 flX12_61 rfl (v := .ref 59) rfl dX12_laysCode_13 ?_
      refine r_iload_n dX12_laysCode_16 rfl ?_
      refine r_aload_n dX12_laysCode_17 rfl ?_
      refine r_iload_n dX12_laysCode_18 rfl ?_
      refine r_iald v1 h1 dX12_laysCode_19 ?_
      refine r_iast 59 rfl dX12_laysCode_20 (r_nx (fun u1 => ?_))
      refine r_iinc dX12_laysCode_21 (Nat.le_of_ble_eq_true rfl) rfl (v := v3 + 1) rfl (ls2 := [some (.ref 47), some (.ref v1), some (.int v2), some (.int (v3 + 1))]) rfl ?_
      refine r_goto dX12_laysCode_24 (tgt := 7) rfl ?_
      exact ih (v3 + 1) u1
def fX12_laysCode (v1 : Nat) (v2 : Int32) (u : US) : Option (US) :=
  gd (okA v1 20) (nx (sI u 47 26 v2) fun u1 => fX12_laysCode_7 v1 v2 FU 0 u1)
set_option maxRecDepth 20000 in
theorem sX12_laysCode (v1 : Nat) (v2 : Int32) (u : US) : Sim tV mX12_laysCode 0 (fX12_laysCode v1 v2 u) 0 [some (.ref 47), some (.ref v1), some (.int v2), none] [] u := by
  unfold fX12_laysCode
  refine r_gd (fun h1 => ?_)
  refine r_aload_n dX12_laysCode_0 rfl ?_
  refine r_iload_n dX12_laysCode_1 rfl ?_
  refine r_put 47 26 fpX12_282 rfl rfl dX12_laysCode_2 (r_nx (fun u1 => ?_))
  refine r_iconst dX12_laysCode_5 (v := 0) rfl ?_
  refine r_istore_n dX12_laysCode_6 (Nat.le_of_ble_eq_true rfl) (ls2 := [some (.ref 47), some (.ref v1), some (.int v2), some (.int 0)]) rfl ?_
  exact sX12_laysCode_7 v1 v2 h1 FU 0 u1
theorem okX12_laysCode (v1 : Nat) (v2 : Int32) (u : US) : ∀ r, fX12_laysCode v1 v2 u = some r → MetC mX12_laysCode 0 [.ref 47, .ref v1, .int v2] u (tV r) :=
  met_of (by decide +kernel) (Nat.le_of_ble_eq_true rfl) rfl (sX12_laysCode v1 v2 u)
def fX12_pairsLet_14 (k4 : Int32 → Int32 → US → Option (Int32 × US)) : Nat → Int32 → Int32 → Int32 → US → Option (Int32 × US)
  | 0, _, _, _, _ => none
  | n + 1, v1, v2, v3, u => (if (gI u 47 5) ≤ v3 then k4 v1 (v2 + 1) u else gd (inb v3 8) (gd (inb v3 8) (oB (fX12_lets 55 v2 (gA u 49 v3) (gA u 50 v3) u) fun r1 u1 => oB (fX12_flag r1 u1) fun r2 u2 => fX12_pairsLet_14 k4 n (v1 + r2) v2 (v3 + 1) u2)))
set_option maxRecDepth 20000 in
theorem sX12_pairsLet_14 (k4 : Int32 → Int32 → US → Option (Int32 × US)) (hk4 : ∀ (v1 : Int32) (v2 : Int32) (u : US), Sim tI mX12_pairsLet 4 (k4 v1 v2 u) 4 [some (.ref 47), some (.int v1), some (.int v2), none] [] u) : ∀ (n : Nat) (v1 : Int32) (v2 : Int32) (v3 : Int32) (u : US), Sim tI mX12_pairsLet 4 (fX12_pairsLet_14 k4 n v1 v2 v3 u) 14 [some (.ref 47), some (.int v1), some (.int v2), some (.int v3)] [] u := by
  intro n
  induction n with
  | zero =>
    intro v1 v2 v3 u
    rw [fX12_pairsLet_14.eq_1]
    exact r_none
  | succ n ih =>
    intro v1 v2 v3 u
    rw [fX12_pairsLet_14.eq_2]
    refine r_iload_n dX12_pairsLet_14 rfl ?_
    refine r_aload_n dX12_pairsLet_15 rfl ?_
    refine r_get 47 5 flX12_140 rfl (v := .int (gI u 47 5)) rfl dX12_pairsLet_16 ?_
    refine r_icmp_ge dX12_pairsLet_19 (tgt := 55) rfl ?_ ?_
    · refine r_iinc dX12_pairsLet_55 (Nat.le_of_ble_eq_true rfl) rfl (v := v2 + 1) rfl (ls2 := [some (.ref 47), some (.int v1), some (.int (v2 + 1)), some (.int v3)]) rfl ?_
      refine r_goto dX12_pairsLet_58 (tgt := 4) rfl ?_
      refine r_mk [true, true, true, false] (ls2 := [some (.ref 47), some (.int v1), some (.int (v2 + 1)), none]) rfl ?_
      exact hk4 v1 (v2 + 1) u
    · refine r_iload_n dX12_pairsLet_22 rfl ?_
      refine r_aload_n dX12_pairsLet_23 rfl ?_
      refine r_aload_n dX12_pairsLet_24 rfl ?_
      refine r_get 47 15 flX12_49 rfl (v := .ref 55) rfl dX12_pairsLet_25 ?_
      refine r_iload_n dX12_pairsLet_28 rfl ?_
      refine r_aload_n dX12_pairsLet_29 rfl ?_
      refine r_get 47 9 flX12_30 rfl (v := .ref 49) rfl dX12_pairsLet_30 ?_
      refine r_iload_n dX12_pairsLet_33 rfl ?_
      refine r_iald 49 rfl dX12_pairsLet_34 ?_
      refine r_aload_n dX12_pairsLet_35 rfl ?_
      refine r_get 47 10 flX12_34 rfl (v := .ref 50) rfl dX12_pairsLet_36 ?_
      refine r_iload_n dX12_pairsLet_39 rfl ?_
      refine r_iald 50 rfl dX12_pairsLet_40 ?_
      refine c_VI (As := [.ref 55, .int v2, .int (gA u 49 v3), .int (gA u 50 v3)]) kvX12_308 rfl (by decide) (okX12_lets 55 v2 (gA u 49 v3) (gA u 50 v3) u) rfl (Nat.le_of_ble_eq_true rfl) rfl dX12_pairsLet_41 (fun r1 u1 => ?_)
      refine c_SI (As := [.int r1]) ksX12_175 (by decide) (okX12_flag r1 u1) rfl (Nat.le_of_ble_eq_true rfl) rfl dX12_pairsLet_44 (fun r2 u2 => ?_)
      refine r_iadd dX12_pairsLet_47 ?_
      refine r_istore_n dX12_pairsLet_48 (Nat.le_of_ble_eq_true rfl) (ls2 := [some (.ref 47), some (.int (v1 + r2)), some (.int v2), some (.int v3)]) rfl ?_
      refine r_iinc dX12_pairsLet_49 (Nat.le_of_ble_eq_true rfl) rfl (v := v3 + 1) rfl (ls2 := [some (.ref 47), some (.int (v1 + r2)), some (.int v2), some (.int (v3 + 1))]) rfl ?_
      refine r_goto dX12_pairsLet_52 (tgt := 14) rfl ?_
      exact ih (v1 + r2) v2 (v3 + 1) u2
def fX12_pairsLet_4 : Nat → Int32 → Int32 → US → Option (Int32 × US)
  | 0, _, _, _ => none
  | n + 1, v1, v2, u => (if (gI u 47 6) ≤ v2 then some (v1, u) else fX12_pairsLet_14 (fX12_pairsLet_4 n) FU v1 v2 0 u)
set_option maxRecDepth 20000 in
theorem sX12_pairsLet_4 : ∀ (n : Nat) (v1 : Int32) (v2 : Int32) (u : US), Sim tI mX12_pairsLet 4 (fX12_pairsLet_4 n v1 v2 u) 4 [some (.ref 47), some (.int v1), some (.int v2), none] [] u := by
  intro n
  induction n with
  | zero =>
    intro v1 v2 u
    rw [fX12_pairsLet_4.eq_1]
    exact r_none
  | succ n ih =>
    intro v1 v2 u
    rw [fX12_pairsLet_4.eq_2]
    refine r_iload_n dX12_pairsLet_4 rfl ?_
    refine r_aload_n dX12_pairsLet_5 rfl ?_
    refine r_get 47 6 flX12_147 rfl (v := .int (gI u 47 6)) rfl dX12_pairsLet_6 ?_
    refine r_icmp_ge dX12_pairsLet_9 (tgt := 61) rfl ?_ ?_
    · refine r_iload_n dX12_pairsLet_61 rfl ?_
      exact r_ireturn rfl dX12_pairsLet_62
    · refine r_iconst dX12_pairsLet_12 (v := 0) rfl ?_
      refine r_istore_n dX12_pairsLet_13 (Nat.le_of_ble_eq_true rfl) (ls2 := [some (.ref 47), some (.int v1), some (.int v2), some (.int 0)]) rfl ?_
      exact sX12_pairsLet_14 (fX12_pairsLet_4 n) ih FU v1 v2 0 u
def fX12_pairsLet (u : US) : Option (Int32 × US) :=
  fX12_pairsLet_4 FU 0 0 u
set_option maxRecDepth 20000 in
theorem sX12_pairsLet (u : US) : Sim tI mX12_pairsLet 4 (fX12_pairsLet u) 0 [some (.ref 47), none, none, none] [] u := by
  unfold fX12_pairsLet
  refine r_iconst dX12_pairsLet_0 (v := 0) rfl ?_
  refine r_istore_n dX12_pairsLet_1 (Nat.le_of_ble_eq_true rfl) (ls2 := [some (.ref 47), some (.int 0), none, none]) rfl ?_
  refine r_iconst dX12_pairsLet_2 (v := 0) rfl ?_
  refine r_istore_n dX12_pairsLet_3 (Nat.le_of_ble_eq_true rfl) (ls2 := [some (.ref 47), some (.int 0), some (.int 0), none]) rfl ?_
  exact sX12_pairsLet_4 FU 0 0 u
theorem okX12_pairsLet (u : US) : ∀ r, fX12_pairsLet u = some r → MetC mX12_pairsLet 4 [.ref 47] u (tI r) :=
  met_of (by decide +kernel) (Nat.le_of_ble_eq_true rfl) rfl (sX12_pairsLet u)
def GX12_readsTerm (gX12_readsRank : Int32 → US → Option (Int32 × US)) (gX12_readsTerm : US → Option (Int32 × US)) (u : US) : Option (Int32 × US) :=
  oB (fX12_takesSign 45 u) fun r1 u1 => (if r1 = 0 then oB (fX12_isDigit u1) fun r2 u2 => (if r2 = 0 then oB (fX12_takesOf 102 u2) fun r3 u3 => (if r3 < 0 then (if (gI u3 47 21) = 4 then some (0, u3) else oB (fX12_takesSign 40 u3) fun r4 u4 => (if r4 = 0 then some (0, u4) else nx (sI u4 47 21 ((gI u4 47 21) + 1)) fun u5 => oB (gX12_readsRank 0 u5) fun r6 u6 => (if r6 = 0 then some (0, u6) else oB (fX12_takesSign 41 u6) fun r7 u7 => (if r7 = 0 then some (0, u7) else nx (sI u7 47 21 ((gI u7 47 21) - 1)) fun u8 => some (1, u8))))) else oV (fX12_codes (1000 + r3) u3) fun u9 => some (1, u9)) else oB (fX12_number 3 u2) fun r10 u10 => oV (fX12_codes r10 u10) fun u11 => some (1, u11)) else oB (gX12_readsTerm u1) fun r12 u12 => oV (fX12_codes 3000 u12) fun u13 => gd (isB r12) (some (r12, u13)))
set_option maxRecDepth 20000 in
theorem sX12_readsTerm {dd : Nat} (gX12_readsRank : Int32 → US → Option (Int32 × US)) (gX12_readsTerm : US → Option (Int32 × US)) (hgX12_readsRank : ∀ (v1 : Int32) (u : US), ∀ r, gX12_readsRank v1 u = some r → MetC mX12_readsRank dd [.ref 47, .int v1] u (tI r)) (hgX12_readsTerm : ∀ (u : US), ∀ r, gX12_readsTerm u = some r → MetC mX12_readsTerm dd [.ref 47] u (tI r)) (hD : 6 ≤ dd) (u : US) : Sim tI mX12_readsTerm (dd + 1) (GX12_readsTerm gX12_readsRank gX12_readsTerm u) 0 [some (.ref 47), none] [] u := by
  unfold GX12_readsTerm
  refine r_aload_n dX12_readsTerm_0 rfl ?_
  refine r_bipush dX12_readsTerm_1 (v := 45) rfl ?_
  refine c_VI (As := [.int 45]) kvX12_245 rfl (by omega) (okX12_takesSign 45 u) rfl (Nat.le_of_ble_eq_true rfl) rfl dX12_readsTerm_3 (fun r1 u1 => ?_)
  refine r_if_eq dX12_readsTerm_6 (tgt := 23) rfl ?_ ?_
  · refine r_aload_n dX12_readsTerm_23 rfl ?_
    refine c_VI (As := []) kvX12_197 rfl (by omega) (okX12_isDigit u1) rfl (Nat.le_of_ble_eq_true rfl) rfl dX12_readsTerm_24 (fun r2 u2 => ?_)
    refine r_if_eq dX12_readsTerm_27 (tgt := 41) rfl ?_ ?_
    · refine r_aload_n dX12_readsTerm_41 rfl ?_
      refine r_ldcSw 2 rfl rfl rfl dX12_readsTerm_42 ?_
      refine c_VI (As := [.ref 102]) kvX12_203 rfl (by omega) (okX12_takesOf 102 u2) rfl (Nat.le_of_ble_eq_true rfl) rfl dX12_readsTerm_45 (fun r3 u3 => ?_)
      refine r_istore_n dX12_readsTerm_48 (Nat.le_of_ble_eq_true rfl) (ls2 := [some (.ref 47), some (.int r3)]) rfl ?_
      refine r_iload_n dX12_readsTerm_49 rfl ?_
      refine r_if_lt dX12_readsTerm_50 (tgt := 64) rfl ?_ ?_
      · refine r_aload_n dX12_readsTerm_64 rfl ?_
        refine r_get 47 21 flX12_165 rfl (v := .int (gI u3 47 21)) rfl dX12_readsTerm_65 ?_
        refine r_iconst dX12_readsTerm_68 (v := 4) rfl ?_
        refine r_icmp_eq dX12_readsTerm_69 (tgt := 81) rfl ?_ ?_
        · refine r_iconst dX12_readsTerm_81 (v := 0) rfl ?_
          exact r_zreturn0 rfl dX12_readsTerm_82
        · refine r_aload_n dX12_readsTerm_72 rfl ?_
          refine r_bipush dX12_readsTerm_73 (v := 40) rfl ?_
          refine c_VI (As := [.int 40]) kvX12_245 rfl (by omega) (okX12_takesSign 40 u3) rfl (Nat.le_of_ble_eq_true rfl) rfl dX12_readsTerm_75 (fun r4 u4 => ?_)
          refine r_if_ne dX12_readsTerm_78 (tgt := 83) rfl ?_ ?_
          · refine r_aload_n dX12_readsTerm_83 rfl ?_
            refine r_dup dX12_readsTerm_84 rfl ?_
            refine r_get 47 21 flX12_165 rfl (v := .int (gI u4 47 21)) rfl dX12_readsTerm_85 ?_
            refine r_iconst dX12_readsTerm_88 (v := 1) rfl ?_
            refine r_iadd dX12_readsTerm_89 ?_
            refine r_put 47 21 fpX12_165 rfl rfl dX12_readsTerm_90 (r_nx (fun u5 => ?_))
            refine r_aload_n dX12_readsTerm_93 rfl ?_
            refine r_iconst dX12_readsTerm_94 (v := 0) rfl ?_
            refine c_VI (As := [.int 0]) kvX12_273 rfl (by omega) (hgX12_readsRank 0 u5) rfl (Nat.le_of_ble_eq_true rfl) rfl dX12_readsTerm_95 (fun r6 u6 => ?_)
            refine r_if_eq dX12_readsTerm_98 (tgt := 110) rfl ?_ ?_
            · refine r_iconst dX12_readsTerm_110 (v := 0) rfl ?_
              exact r_zreturn0 rfl dX12_readsTerm_111
            · refine r_aload_n dX12_readsTerm_101 rfl ?_
              refine r_bipush dX12_readsTerm_102 (v := 41) rfl ?_
              refine c_VI (As := [.int 41]) kvX12_245 rfl (by omega) (okX12_takesSign 41 u6) rfl (Nat.le_of_ble_eq_true rfl) rfl dX12_readsTerm_104 (fun r7 u7 => ?_)
              refine r_if_ne dX12_readsTerm_107 (tgt := 112) rfl ?_ ?_
              · refine r_aload_n dX12_readsTerm_112 rfl ?_
                refine r_dup dX12_readsTerm_113 rfl ?_
                refine r_get 47 21 flX12_165 rfl (v := .int (gI u7 47 21)) rfl dX12_readsTerm_114 ?_
                refine r_iconst dX12_readsTerm_117 (v := 1) rfl ?_
                refine r_isub dX12_readsTerm_118 ?_
                refine r_put 47 21 fpX12_165 rfl rfl dX12_readsTerm_119 (r_nx (fun u8 => ?_))
                refine r_iconst dX12_readsTerm_122 (v := 1) rfl ?_
                exact r_zreturn1 rfl dX12_readsTerm_123
              · refine r_iconst dX12_readsTerm_110 (v := 0) rfl ?_
                exact r_zreturn0 rfl dX12_readsTerm_111
          · refine r_iconst dX12_readsTerm_81 (v := 0) rfl ?_
            exact r_zreturn0 rfl dX12_readsTerm_82
      · refine r_aload_n dX12_readsTerm_53 rfl ?_
        refine r_sipush dX12_readsTerm_54 (v := 1000) rfl ?_
        refine r_iload_n dX12_readsTerm_57 rfl ?_
        refine r_iadd dX12_readsTerm_58 ?_
        refine c_VV (As := [.int (1000 + r3)]) kvX12_267 rfl (by omega) (okX12_codes (1000 + r3) u3) rfl (Nat.le_of_ble_eq_true rfl) rfl dX12_readsTerm_59 (fun u9 => ?_)
        refine r_iconst dX12_readsTerm_62 (v := 1) rfl ?_
        exact r_zreturn1 rfl dX12_readsTerm_63
    · refine r_aload_n dX12_readsTerm_30 rfl ?_
      refine r_aload_n dX12_readsTerm_31 rfl ?_
      refine r_iconst dX12_readsTerm_32 (v := 3) rfl ?_
      refine c_VI (As := [.int 3]) kvX12_221 rfl (by omega) (okX12_number 3 u2) rfl (Nat.le_of_ble_eq_true rfl) rfl dX12_readsTerm_33 (fun r10 u10 => ?_)
      refine c_VV (As := [.int r10]) kvX12_267 rfl (by omega) (okX12_codes r10 u10) rfl (Nat.le_of_ble_eq_true rfl) rfl dX12_readsTerm_36 (fun u11 => ?_)
      refine r_iconst dX12_readsTerm_39 (v := 1) rfl ?_
      exact r_zreturn1 rfl dX12_readsTerm_40
  · refine r_aload_n dX12_readsTerm_9 rfl ?_
    refine c_VI (As := []) kvX12_264 rfl (by omega) (hgX12_readsTerm u1) rfl (Nat.le_of_ble_eq_true rfl) rfl dX12_readsTerm_10 (fun r12 u12 => ?_)
    refine r_istore_n dX12_readsTerm_13 (Nat.le_of_ble_eq_true rfl) (ls2 := [some (.ref 47), some (.int r12)]) rfl ?_
    refine r_aload_n dX12_readsTerm_14 rfl ?_
    refine r_sipush dX12_readsTerm_15 (v := 3000) rfl ?_
    refine c_VV (As := [.int 3000]) kvX12_267 rfl (by omega) (okX12_codes 3000 u12) rfl (Nat.le_of_ble_eq_true rfl) rfl dX12_readsTerm_18 (fun u13 => ?_)
    refine r_iload_n dX12_readsTerm_21 rfl ?_
    exact r_zreturn rfl dX12_readsTerm_22
theorem okX12_readsTerm {dd : Nat} (gX12_readsRank : Int32 → US → Option (Int32 × US)) (gX12_readsTerm : US → Option (Int32 × US)) (hgX12_readsRank : ∀ (v1 : Int32) (u : US), ∀ r, gX12_readsRank v1 u = some r → MetC mX12_readsRank dd [.ref 47, .int v1] u (tI r)) (hgX12_readsTerm : ∀ (u : US), ∀ r, gX12_readsTerm u = some r → MetC mX12_readsTerm dd [.ref 47] u (tI r)) (hD : 6 ≤ dd) (u : US) : ∀ r, GX12_readsTerm gX12_readsRank gX12_readsTerm u = some r → MetC mX12_readsTerm (dd + 1) [.ref 47] u (tI r) :=
  met_of (by decide +kernel) (Nat.le_of_ble_eq_true rfl) rfl (sX12_readsTerm gX12_readsRank gX12_readsTerm hgX12_readsRank hgX12_readsTerm hD u)
def fX12_readsRank_99 (gX12_readsRank : Int32 → US → Option (Int32 × US)) (gX12_readsTerm : US → Option (Int32 × US)) (v1 : Int32) (k24 : Int32 → US → Option (Int32 × US)) (s1 : Int32) (s2 : Int32) (u : US) : Option (Int32 × US) :=
  oV (fX12_codes (s1 + s2) u) fun u1 => (if v1 ≤ 0 then k24 0 u1 else k24 1 u1)
set_option maxRecDepth 20000 in
theorem sX12_readsRank_99 {dd : Nat} (gX12_readsRank : Int32 → US → Option (Int32 × US)) (gX12_readsTerm : US → Option (Int32 × US)) (hgX12_readsRank : ∀ (v1 : Int32) (u : US), ∀ r, gX12_readsRank v1 u = some r → MetC mX12_readsRank dd [.ref 47, .int v1] u (tI r)) (hgX12_readsTerm : ∀ (u : US), ∀ r, gX12_readsTerm u = some r → MetC mX12_readsTerm dd [.ref 47] u (tI r)) (hD : 6 ≤ dd) (v1 : Int32) (k24 : Int32 → US → Option (Int32 × US)) (hk24 : ∀ (v2 : Int32) (u : US), Sim tI mX12_readsRank (dd + 1) (k24 v2 u) 24 [some (.ref 47), some (.int v1), some (.int v2), none] [] u) (s1 : Int32) (s2 : Int32) (u : US) : Sim tI mX12_readsRank (dd + 1) (fX12_readsRank_99 gX12_readsRank gX12_readsTerm v1 k24 s1 s2 u) 99 [some (.ref 47), some (.int v1), none, none] [.int s2, .int s1, .ref 47] u := by
  unfold fX12_readsRank_99
  refine r_iadd dX12_readsRank_99 ?_
  refine c_VV (As := [.int (s1 + s2)]) kvX12_267 rfl (by omega) (okX12_codes (s1 + s2) u) rfl (Nat.le_of_ble_eq_true rfl) rfl dX12_readsRank_100 (fun u1 => ?_)
  refine r_iload_n dX12_readsRank_103 rfl ?_
  refine r_if_le dX12_readsRank_104 (tgt := 111) rfl ?_ ?_
  · refine r_iconst dX12_readsRank_111 (v := 0) rfl ?_
    refine r_istore_n dX12_readsRank_112 (Nat.le_of_ble_eq_true rfl) (ls2 := [some (.ref 47), some (.int v1), some (.int 0), none]) rfl ?_
    refine r_goto dX12_readsRank_113 (tgt := 24) rfl ?_
    exact hk24 0 u1
  · refine r_iconst dX12_readsRank_107 (v := 1) rfl ?_
    refine r_goto dX12_readsRank_108 (tgt := 112) rfl ?_
    refine r_istore_n dX12_readsRank_112 (Nat.le_of_ble_eq_true rfl) (ls2 := [some (.ref 47), some (.int v1), some (.int 1), none]) rfl ?_
    refine r_goto dX12_readsRank_113 (tgt := 24) rfl ?_
    exact hk24 1 u1
def fX12_readsRank_53 (gX12_readsRank : Int32 → US → Option (Int32 × US)) (gX12_readsTerm : US → Option (Int32 × US)) (v1 : Int32) (k24 : Int32 → US → Option (Int32 × US)) (s1 : Nat) (u : US) : Option (Int32 × US) :=
  oB (fX12_takesOf s1 u) fun r1 u1 => (if 0 ≤ r1 then oB (gX12_readsRank (v1 + 1) u1) fun r2 u2 => (if r2 = 0 then some (0, u2) else (if v1 = 0 then fX12_readsRank_99 gX12_readsRank gX12_readsTerm v1 k24 (2000 + r1) 0 u2 else (if v1 = 1 then fX12_readsRank_99 gX12_readsRank gX12_readsTerm v1 k24 (2000 + r1) 3 u2 else fX12_readsRank_99 gX12_readsRank gX12_readsTerm v1 k24 (2000 + r1) 5 u2))) else some (1, u1))
set_option maxRecDepth 20000 in
theorem sX12_readsRank_53 {dd : Nat} (gX12_readsRank : Int32 → US → Option (Int32 × US)) (gX12_readsTerm : US → Option (Int32 × US)) (hgX12_readsRank : ∀ (v1 : Int32) (u : US), ∀ r, gX12_readsRank v1 u = some r → MetC mX12_readsRank dd [.ref 47, .int v1] u (tI r)) (hgX12_readsTerm : ∀ (u : US), ∀ r, gX12_readsTerm u = some r → MetC mX12_readsTerm dd [.ref 47] u (tI r)) (hD : 6 ≤ dd) (v1 : Int32) (k24 : Int32 → US → Option (Int32 × US)) (hk24 : ∀ (v2 : Int32) (u : US), Sim tI mX12_readsRank (dd + 1) (k24 v2 u) 24 [some (.ref 47), some (.int v1), some (.int v2), none] [] u) (s1 : Nat) (hs1 : isStr s1 = true) (u : US) : Sim tI mX12_readsRank (dd + 1) (fX12_readsRank_53 gX12_readsRank gX12_readsTerm v1 k24 s1 u) 53 [some (.ref 47), some (.int v1), none, none] [.ref s1, .ref 47] u := by
  unfold fX12_readsRank_53
  refine c_VI (As := [.ref s1]) kvX12_203 rfl (by omega) (okX12_takesOf s1 u) rfl (Nat.le_of_ble_eq_true rfl) rfl dX12_readsRank_53 (fun r1 u1 => ?_)
  refine r_istore_n dX12_readsRank_56 (Nat.le_of_ble_eq_true rfl) (ls2 := [some (.ref 47), some (.int v1), none, some (.int r1)]) rfl ?_
  refine r_iload_n dX12_readsRank_57 rfl ?_
  refine r_if_ge dX12_readsRank_58 (tgt := 63) rfl ?_ ?_
  · refine r_aload_n dX12_readsRank_63 rfl ?_
    refine r_iload_n dX12_readsRank_64 rfl ?_
    refine r_iconst dX12_readsRank_65 (v := 1) rfl ?_
    refine r_iadd dX12_readsRank_66 ?_
    refine c_VI (As := [.int (v1 + 1)]) kvX12_273 rfl (by omega) (hgX12_readsRank (v1 + 1) u1) rfl (Nat.le_of_ble_eq_true rfl) rfl dX12_readsRank_67 (fun r2 u2 => ?_)
    refine r_if_ne dX12_readsRank_70 (tgt := 75) rfl ?_ ?_
    · refine r_aload_n dX12_readsRank_75 rfl ?_
      refine r_sipush dX12_readsRank_76 (v := 2000) rfl ?_
      refine r_iload_n dX12_readsRank_79 rfl ?_
      refine r_iadd dX12_readsRank_80 ?_
      refine r_iload_n dX12_readsRank_81 rfl ?_
      refine r_if_ne dX12_readsRank_82 (tgt := 89) rfl ?_ ?_
      · refine r_iload_n dX12_readsRank_89 rfl ?_
        refine r_iconst dX12_readsRank_90 (v := 1) rfl ?_
        refine r_icmp_ne dX12_readsRank_91 (tgt := 98) rfl ?_ ?_
        · refine r_iconst dX12_readsRank_98 (v := 5) rfl ?_
          refine r_mk [true, true, false, false] (ls2 := [some (.ref 47), some (.int v1), none, none]) rfl ?_
          exact sX12_readsRank_99 gX12_readsRank gX12_readsTerm hgX12_readsRank hgX12_readsTerm hD v1 k24 hk24 (2000 + r1) 5 u2
        · refine r_iconst dX12_readsRank_94 (v := 3) rfl ?_
          refine r_goto dX12_readsRank_95 (tgt := 99) rfl ?_
          refine r_mk [true, true, false, false] (ls2 := [some (.ref 47), some (.int v1), none, none]) rfl ?_
          exact sX12_readsRank_99 gX12_readsRank gX12_readsTerm hgX12_readsRank hgX12_readsTerm hD v1 k24 hk24 (2000 + r1) 3 u2
      · refine r_iconst dX12_readsRank_85 (v := 0) rfl ?_
        refine r_goto dX12_readsRank_86 (tgt := 99) rfl ?_
        refine r_mk [true, true, false, false] (ls2 := [some (.ref 47), some (.int v1), none, none]) rfl ?_
        exact sX12_readsRank_99 gX12_readsRank gX12_readsTerm hgX12_readsRank hgX12_readsTerm hD v1 k24 hk24 (2000 + r1) 0 u2
    · refine r_iconst dX12_readsRank_73 (v := 0) rfl ?_
      exact r_zreturn0 rfl dX12_readsRank_74
  · refine r_iconst dX12_readsRank_61 (v := 1) rfl ?_
    exact r_zreturn1 rfl dX12_readsRank_62
def fX12_readsRank_24 (gX12_readsRank : Int32 → US → Option (Int32 × US)) (gX12_readsTerm : US → Option (Int32 × US)) (v1 : Int32) : Nat → Int32 → US → Option (Int32 × US)
  | 0, _, _ => none
  | n + 1, v2, u => (if v2 = 0 then some (1, u) else (if v1 = 0 then fX12_readsRank_53 gX12_readsRank gX12_readsTerm v1 (fX12_readsRank_24 gX12_readsRank gX12_readsTerm v1 n) 103 u else (if v1 = 1 then fX12_readsRank_53 gX12_readsRank gX12_readsTerm v1 (fX12_readsRank_24 gX12_readsRank gX12_readsTerm v1 n) 104 u else fX12_readsRank_53 gX12_readsRank gX12_readsTerm v1 (fX12_readsRank_24 gX12_readsRank gX12_readsTerm v1 n) 105 u)))
set_option maxRecDepth 20000 in
theorem sX12_readsRank_24 {dd : Nat} (gX12_readsRank : Int32 → US → Option (Int32 × US)) (gX12_readsTerm : US → Option (Int32 × US)) (hgX12_readsRank : ∀ (v1 : Int32) (u : US), ∀ r, gX12_readsRank v1 u = some r → MetC mX12_readsRank dd [.ref 47, .int v1] u (tI r)) (hgX12_readsTerm : ∀ (u : US), ∀ r, gX12_readsTerm u = some r → MetC mX12_readsTerm dd [.ref 47] u (tI r)) (hD : 6 ≤ dd) (v1 : Int32) : ∀ (n : Nat) (v2 : Int32) (u : US), Sim tI mX12_readsRank (dd + 1) (fX12_readsRank_24 gX12_readsRank gX12_readsTerm v1 n v2 u) 24 [some (.ref 47), some (.int v1), some (.int v2), none] [] u := by
  intro n
  induction n with
  | zero =>
    intro v2 u
    rw [fX12_readsRank_24.eq_1]
    exact r_none
  | succ n ih =>
    intro v2 u
    rw [fX12_readsRank_24.eq_2]
    refine r_iload_n dX12_readsRank_24 rfl ?_
    refine r_if_eq dX12_readsRank_25 (tgt := 116) rfl ?_ ?_
    · refine r_iconst dX12_readsRank_116 (v := 1) rfl ?_
      exact r_zreturn1 rfl dX12_readsRank_117
    · refine r_aload_n dX12_readsRank_28 rfl ?_
      refine r_iload_n dX12_readsRank_29 rfl ?_
      refine r_if_ne dX12_readsRank_30 (tgt := 39) rfl ?_ ?_
      · refine r_iload_n dX12_readsRank_39 rfl ?_
        refine r_iconst dX12_readsRank_40 (v := 1) rfl ?_
        refine r_icmp_ne dX12_readsRank_41 (tgt := 50) rfl ?_ ?_
        · refine r_ldcSw 5 rfl rfl rfl dX12_readsRank_50 ?_
          refine r_mk [true, true, false, false] (ls2 := [some (.ref 47), some (.int v1), none, none]) rfl ?_
          exact sX12_readsRank_53 gX12_readsRank gX12_readsTerm hgX12_readsRank hgX12_readsTerm hD v1 (fX12_readsRank_24 gX12_readsRank gX12_readsTerm v1 n) ih 105 rfl u
        · refine r_ldcSw 4 rfl rfl rfl dX12_readsRank_44 ?_
          refine r_goto dX12_readsRank_47 (tgt := 53) rfl ?_
          refine r_mk [true, true, false, false] (ls2 := [some (.ref 47), some (.int v1), none, none]) rfl ?_
          exact sX12_readsRank_53 gX12_readsRank gX12_readsTerm hgX12_readsRank hgX12_readsTerm hD v1 (fX12_readsRank_24 gX12_readsRank gX12_readsTerm v1 n) ih 104 rfl u
      · refine r_ldcSw 3 rfl rfl rfl dX12_readsRank_33 ?_
        refine r_goto dX12_readsRank_36 (tgt := 53) rfl ?_
        refine r_mk [true, true, false, false] (ls2 := [some (.ref 47), some (.int v1), none, none]) rfl ?_
        exact sX12_readsRank_53 gX12_readsRank gX12_readsTerm hgX12_readsRank hgX12_readsTerm hD v1 (fX12_readsRank_24 gX12_readsRank gX12_readsTerm v1 n) ih 103 rfl u
def GX12_readsRank (gX12_readsRank : Int32 → US → Option (Int32 × US)) (gX12_readsTerm : US → Option (Int32 × US)) (v1 : Int32) (u : US) : Option (Int32 × US) :=
  (if v1 = 3 then oB (gX12_readsTerm u) fun r2 u2 => gd (isB r2) (some (r2, u2)) else oB (gX12_readsRank (v1 + 1) u) fun r1 u1 => (if r1 = 0 then some (0, u1) else fX12_readsRank_24 gX12_readsRank gX12_readsTerm v1 FU 1 u1))
set_option maxRecDepth 20000 in
theorem sX12_readsRank {dd : Nat} (gX12_readsRank : Int32 → US → Option (Int32 × US)) (gX12_readsTerm : US → Option (Int32 × US)) (hgX12_readsRank : ∀ (v1 : Int32) (u : US), ∀ r, gX12_readsRank v1 u = some r → MetC mX12_readsRank dd [.ref 47, .int v1] u (tI r)) (hgX12_readsTerm : ∀ (u : US), ∀ r, gX12_readsTerm u = some r → MetC mX12_readsTerm dd [.ref 47] u (tI r)) (hD : 6 ≤ dd) (v1 : Int32) (u : US) : Sim tI mX12_readsRank (dd + 1) (GX12_readsRank gX12_readsRank gX12_readsTerm v1 u) 0 [some (.ref 47), some (.int v1), none, none] [] u := by
  unfold GX12_readsRank
  refine r_iload_n dX12_readsRank_0 rfl ?_
  refine r_iconst dX12_readsRank_1 (v := 3) rfl ?_
  refine r_icmp_ne dX12_readsRank_2 (tgt := 10) rfl ?_ ?_
  · refine r_aload_n dX12_readsRank_10 rfl ?_
    refine r_iload_n dX12_readsRank_11 rfl ?_
    refine r_iconst dX12_readsRank_12 (v := 1) rfl ?_
    refine r_iadd dX12_readsRank_13 ?_
    refine c_VI (As := [.int (v1 + 1)]) kvX12_273 rfl (by omega) (hgX12_readsRank (v1 + 1) u) rfl (Nat.le_of_ble_eq_true rfl) rfl dX12_readsRank_14 (fun r1 u1 => ?_)
    refine r_if_ne dX12_readsRank_17 (tgt := 22) rfl ?_ ?_
    · refine r_iconst dX12_readsRank_22 (v := 1) rfl ?_
      refine r_istore_n dX12_readsRank_23 (Nat.le_of_ble_eq_true rfl) (ls2 := [some (.ref 47), some (.int v1), some (.int 1), none]) rfl ?_
      exact sX12_readsRank_24 gX12_readsRank gX12_readsTerm hgX12_readsRank hgX12_readsTerm hD v1 FU 1 u1
    · refine r_iconst dX12_readsRank_20 (v := 0) rfl ?_
      exact r_zreturn0 rfl dX12_readsRank_21
  · refine r_aload_n dX12_readsRank_5 rfl ?_
    refine c_VI (As := []) kvX12_264 rfl (by omega) (hgX12_readsTerm u) rfl (Nat.le_of_ble_eq_true rfl) rfl dX12_readsRank_6 (fun r2 u2 => ?_)
    exact r_zreturn rfl dX12_readsRank_9
theorem okX12_readsRank {dd : Nat} (gX12_readsRank : Int32 → US → Option (Int32 × US)) (gX12_readsTerm : US → Option (Int32 × US)) (hgX12_readsRank : ∀ (v1 : Int32) (u : US), ∀ r, gX12_readsRank v1 u = some r → MetC mX12_readsRank dd [.ref 47, .int v1] u (tI r)) (hgX12_readsTerm : ∀ (u : US), ∀ r, gX12_readsTerm u = some r → MetC mX12_readsTerm dd [.ref 47] u (tI r)) (hD : 6 ≤ dd) (v1 : Int32) (u : US) : ∀ r, GX12_readsRank gX12_readsRank gX12_readsTerm v1 u = some r → MetC mX12_readsRank (dd + 1) [.ref 47, .int v1] u (tI r) :=
  met_of (by decide +kernel) (Nat.le_of_ble_eq_true rfl) rfl (sX12_readsRank gX12_readsRank gX12_readsTerm hgX12_readsRank hgX12_readsTerm hD v1 u)
def FX12_readsRank : Nat → (Int32 → US → Option (Int32 × US)) × (US → Option (Int32 × US))
  | 0 => (fun _ _ => none, fun _ => none)
  | n + 1 => (GX12_readsRank (FX12_readsRank n).1 (FX12_readsRank n).2, GX12_readsTerm (FX12_readsRank n).1 (FX12_readsRank n).2)
def fX12_readsRank (n : Nat) : Int32 → US → Option (Int32 × US) := (FX12_readsRank n).1
def fX12_readsTerm (n : Nat) : US → Option (Int32 × US) := (FX12_readsRank n).2
theorem ok_FX12_readsRank : ∀ (n : Nat), (∀ (v1 : Int32) (u : US), ∀ r, (FX12_readsRank n).1 v1 u = some r → MetC mX12_readsRank (6 + n * 1) [.ref 47, .int v1] u (tI r)) ∧ (∀ (u : US), ∀ r, (FX12_readsRank n).2 u = some r → MetC mX12_readsTerm (6 + n * 1) [.ref 47] u (tI r)) := by
  intro n
  induction n with
  | zero => exact ⟨fun _ _ r h => (by cases h), fun _ r h => (by cases h)⟩
  | succ n ih =>
    rw [show 6 + (n + 1) * 1 = 6 + n * 1 + 1 by omega]
    exact ⟨fun a0 a1 r h => okX12_readsRank (dd := 6 + n * 1) _ _ ih.1 ih.2 (by omega) a0 a1 r h, fun a0 r h => okX12_readsTerm (dd := 6 + n * 1) _ _ ih.1 ih.2 (by omega) a0 r h⟩
theorem ok_X12_readsRank (n : Nat) (v1 : Int32) (u : US) : ∀ r, fX12_readsRank n v1 u = some r → MetC mX12_readsRank (6 + n * 1) [.ref 47, .int v1] u (tI r) := (ok_FX12_readsRank n).1 v1 u
theorem ok_X12_readsTerm (n : Nat) (u : US) : ∀ r, fX12_readsTerm n u = some r → MetC mX12_readsTerm (6 + n * 1) [.ref 47] u (tI r) := (ok_FX12_readsRank n).2 u
def fX12_readsRule_29 (v1 : Int32) (s0 : Int32) (u : US) : Option (Int32 × US) :=
  oB (fX12_faultOf v1 40 s0 u) fun r1 u1 => some (r1, u1)
set_option maxRecDepth 20000 in
theorem sX12_readsRule_29 (v1 : Int32) (s0 : Int32) (u : US) : Sim tI mX12_readsRule 401 (fX12_readsRule_29 v1 s0 u) 29 [some (.ref 47), some (.int v1), none] [.int s0] u := by
  unfold fX12_readsRule_29
  refine r_istore_n dX12_readsRule_29 (Nat.le_of_ble_eq_true rfl) (ls2 := [some (.ref 47), some (.int v1), some (.int s0)]) rfl ?_
  refine r_aload_n dX12_readsRule_30 rfl ?_
  refine r_iload_n dX12_readsRule_31 rfl ?_
  refine r_bipush dX12_readsRule_32 (v := 40) rfl ?_
  refine r_iload_n dX12_readsRule_34 rfl ?_
  refine c_VI (As := [.int v1, .int 40, .int s0]) kvX12_248 rfl (by decide) (okX12_faultOf v1 40 s0 u) rfl (Nat.le_of_ble_eq_true rfl) rfl dX12_readsRule_35 (fun r1 u1 => ?_)
  exact r_ireturn rfl dX12_readsRule_38
def fX12_readsRule_24 (v1 : Int32) (u : US) : Option (Int32 × US) :=
  fX12_readsRule_29 v1 1 u
set_option maxRecDepth 20000 in
theorem sX12_readsRule_24 (v1 : Int32) (u : US) : Sim tI mX12_readsRule 401 (fX12_readsRule_24 v1 u) 24 [some (.ref 47), some (.int v1), none] [] u := by
  unfold fX12_readsRule_24
  refine r_iconst dX12_readsRule_24 (v := 1) rfl ?_
  refine r_goto dX12_readsRule_25 (tgt := 29) rfl ?_
  exact sX12_readsRule_29 v1 1 u
def fX12_readsRule (u : US) : Option (Int32 × US) :=
  oB (fX12_begins 40 u) fun r1 u1 => nx (sI u1 47 27 0) fun u2 => (if r1 = 0 then fX12_readsRule_24 r1 u2 else oB (fX12_readsRank 120 0 u2) fun r3 u3 => (if r3 = 0 then fX12_readsRule_29 r1 0 u3 else fX12_readsRule_24 r1 u3))
set_option maxRecDepth 20000 in
theorem sX12_readsRule (u : US) : Sim tI mX12_readsRule 401 (fX12_readsRule u) 0 [some (.ref 47), none, none] [] u := by
  unfold fX12_readsRule
  refine r_aload_n dX12_readsRule_0 rfl ?_
  refine r_bipush dX12_readsRule_1 (v := 40) rfl ?_
  refine c_VI (As := [.int 40]) kvX12_206 rfl (by decide) (okX12_begins 40 u) rfl (Nat.le_of_ble_eq_true rfl) rfl dX12_readsRule_3 (fun r1 u1 => ?_)
  refine r_istore_n dX12_readsRule_6 (Nat.le_of_ble_eq_true rfl) (ls2 := [some (.ref 47), some (.int r1), none]) rfl ?_
  refine r_aload_n dX12_readsRule_7 rfl ?_
  refine r_iconst dX12_readsRule_8 (v := 0) rfl ?_
  refine r_put 47 27 fpX12_261 rfl rfl dX12_readsRule_9 (r_nx (fun u2 => ?_))
  refine r_iload_n dX12_readsRule_12 rfl ?_
  refine r_if_eq dX12_readsRule_13 (tgt := 24) rfl ?_ ?_
  · exact sX12_readsRule_24 r1 u2
  · refine r_aload_n dX12_readsRule_16 rfl ?_
    refine r_iconst dX12_readsRule_17 (v := 0) rfl ?_
    refine c_VI (As := [.int 0]) kvX12_273 rfl (by decide) (ok_X12_readsRank 120 0 u2) rfl (Nat.le_of_ble_eq_true rfl) rfl dX12_readsRule_18 (fun r3 u3 => ?_)
    refine r_if_eq dX12_readsRule_21 (tgt := 28) rfl ?_ ?_
    · refine r_iconst dX12_readsRule_28 (v := 0) rfl ?_
      exact sX12_readsRule_29 r1 0 u3
    · exact sX12_readsRule_24 r1 u3
theorem okX12_readsRule (u : US) : ∀ r, fX12_readsRule u = some r → MetC mX12_readsRule 401 [.ref 47] u (tI r) :=
  met_of (by decide +kernel) (Nat.le_of_ble_eq_true rfl) rfl (sX12_readsRule u)
def fX12_law_35 : Nat → Int32 → Int32 → Int32 → US → Option (Int32 × US)
  | 0, _, _, _, _ => none
  | n + 1, v2, v3, v4, u => (if (gI u 47 26) ≤ v4 then oV (fX12_laysCode 60 (gI u 47 27) u) fun u1 => oB (fX12_pairsLet u1) fun r2 u2 => oV (fX12_laysCode 81 v3 u2) fun u3 => nx (sI u3 47 1 0) fun u4 => oV (fX12_enters ((r2 : Int32).toInt64) u4) fun u5 => oV (fX12_enters ((v2 : Int32).toInt64) u5) fun u6 => some (r2 - v2, u6) else gd (inb v4 80) (gd (inb v4 80) (nx (sA u 81 v4 (gA u 59 v4)) fun u7 => fX12_law_35 n v2 v3 (v4 + 1) u7)))
set_option maxRecDepth 20000 in
theorem sX12_law_35 : ∀ (n : Nat) (v2 : Int32) (v3 : Int32) (v4 : Int32) (u : US), Sim tI mX12_law 402 (fX12_law_35 n v2 v3 v4 u) 35 [some (.ref 47), none, some (.int v2), some (.int v3), some (.int v4)] [] u := by
  intro n
  induction n with
  | zero =>
    intro v2 v3 v4 u
    rw [fX12_law_35.eq_1]
    exact r_none
  | succ n ih =>
    intro v2 v3 v4 u
    rw [fX12_law_35.eq_2]
    refine r_iload dX12_law_35 rfl ?_
    refine r_aload_n dX12_law_37 rfl ?_
    refine r_get 47 26 flX12_282 rfl (v := .int (gI u 47 26)) rfl dX12_law_38 ?_
    refine r_icmp_ge dX12_law_41 (tgt := 64) rfl ?_ ?_
    · refine r_aload_n dX12_law_64 rfl ?_
      refine r_aload_n dX12_law_65 rfl ?_
      refine r_get 47 25 flX12_64 rfl (v := .ref 60) rfl dX12_law_66 ?_
      refine r_aload_n dX12_law_69 rfl ?_
      refine r_get 47 27 flX12_261 rfl (v := .int (gI u 47 27)) rfl dX12_law_70 ?_
      refine c_VV (As := [.ref 60, .int (gI u 47 27)]) kvX12_288 rfl (by decide) (okX12_laysCode 60 (gI u 47 27) u) rfl (Nat.le_of_ble_eq_true rfl) rfl dX12_law_73 (fun u1 => ?_)
      refine r_aload_n dX12_law_76 rfl ?_
      refine c_VI (As := []) kvX12_445 rfl (by decide) (okX12_pairsLet u1) rfl (Nat.le_of_ble_eq_true rfl) rfl dX12_law_77 (fun r2 u2 => ?_)
      refine r_istore dX12_law_80 (Nat.le_of_ble_eq_true rfl) (ls2 := [some (.ref 47), none, some (.int v2), some (.int v3), some (.int r2)]) rfl ?_
      refine r_aload_n dX12_law_82 rfl ?_
      refine r_aload_n dX12_law_83 rfl ?_
      refine r_get 47 52 flX12_128 rfl (v := .ref 81) rfl dX12_law_84 ?_
      refine r_iload_n dX12_law_87 rfl ?_
      refine c_VV (As := [.ref 81, .int v3]) kvX12_288 rfl (by decide) (okX12_laysCode 81 v3 u2) rfl (Nat.le_of_ble_eq_true rfl) rfl dX12_law_88 (fun u3 => ?_)
      refine r_aload_n dX12_law_91 rfl ?_
      refine r_iconst dX12_law_92 (v := 0) rfl ?_
      refine r_put 47 1 fpX12_15 rfl rfl dX12_law_93 (r_nx (fun u4 => ?_))
      refine r_aload_n dX12_law_96 rfl ?_
      refine r_iload dX12_law_97 rfl ?_
      refine r_i2l dX12_law_99 ?_
      refine c_VV (As := [.long ((r2 : Int32).toInt64)]) kvX12_387 rfl (by decide) (okX12_enters ((r2 : Int32).toInt64) u4) rfl (Nat.le_of_ble_eq_true rfl) rfl dX12_law_100 (fun u5 => ?_)
      refine r_aload_n dX12_law_103 rfl ?_
      refine r_iload_n dX12_law_104 rfl ?_
      refine r_i2l dX12_law_105 ?_
      refine c_VV (As := [.long ((v2 : Int32).toInt64)]) kvX12_387 rfl (by decide) (okX12_enters ((v2 : Int32).toInt64) u5) rfl (Nat.le_of_ble_eq_true rfl) rfl dX12_law_106 (fun u6 => ?_)
      refine r_iload dX12_law_109 rfl ?_
      refine r_iload_n dX12_law_111 rfl ?_
      refine r_isub dX12_law_112 ?_
      exact r_ireturn rfl dX12_law_113
    · refine r_aload_n dX12_law_44 rfl ?_
      refine r_get 47 52 flX12_128 rfl (v := .ref 81) rfl dX12_law_45 ?_
      refine r_iload dX12_law_48 rfl ?_
      refine r_aload_n dX12_law_50 rfl ?_
      refine r_get 47 24 flX12_61 rfl (v := .ref 59) rfl dX12_law_51 ?_
      refine r_iload dX12_law_54 rfl ?_
      refine r_iald 59 rfl dX12_law_56 ?_
      refine r_iast 81 rfl dX12_law_57 (r_nx (fun u7 => ?_))
      refine r_iinc dX12_law_58 (Nat.le_of_ble_eq_true rfl) rfl (v := v4 + 1) rfl (ls2 := [some (.ref 47), none, some (.int v2), some (.int v3), some (.int (v4 + 1))]) rfl ?_
      refine r_goto dX12_law_61 (tgt := 35) rfl ?_
      exact ih v2 v3 (v4 + 1) u7
def fX12_law (u : US) : Option (Int32 × US) :=
  nx (sI u 47 0 0) fun u1 => oB (fX12_readsRule u1) fun r2 u2 => (if 0 ≤ r2 then oB (fX12_pairsLet u2) fun r3 u3 => fX12_law_35 FU r3 (gI u3 47 26) 0 u3 else some ((r2 + 1) - 10000, u2))
set_option maxRecDepth 20000 in
theorem sX12_law (u : US) : Sim tI mX12_law 402 (fX12_law u) 0 [some (.ref 47), none, none, none, none] [] u := by
  unfold fX12_law
  refine r_aload_n dX12_law_0 rfl ?_
  refine r_iconst dX12_law_1 (v := 0) rfl ?_
  refine r_put 47 0 fpX12_3 rfl rfl dX12_law_2 (r_nx (fun u1 => ?_))
  refine r_aload_n dX12_law_5 rfl ?_
  refine c_VI (As := []) kvX12_285 rfl (by decide) (okX12_readsRule u1) rfl (Nat.le_of_ble_eq_true rfl) rfl dX12_law_6 (fun r2 u2 => ?_)
  refine r_istore_n dX12_law_9 (Nat.le_of_ble_eq_true rfl) (ls2 := [some (.ref 47), some (.int r2), none, none, none]) rfl ?_
  refine r_iload_n dX12_law_10 rfl ?_
  refine r_if_ge dX12_law_11 (tgt := 22) rfl ?_ ?_
  · refine r_aload_n dX12_law_22 rfl ?_
    refine c_VI (As := []) kvX12_445 rfl (by decide) (okX12_pairsLet u2) rfl (Nat.le_of_ble_eq_true rfl) rfl dX12_law_23 (fun r3 u3 => ?_)
    refine r_istore_n dX12_law_26 (Nat.le_of_ble_eq_true rfl) (ls2 := [some (.ref 47), some (.int r2), some (.int r3), none, none]) rfl ?_
    refine r_aload_n dX12_law_27 rfl ?_
    refine r_get 47 26 flX12_282 rfl (v := .int (gI u3 47 26)) rfl dX12_law_28 ?_
    refine r_istore_n dX12_law_31 (Nat.le_of_ble_eq_true rfl) (ls2 := [some (.ref 47), some (.int r2), some (.int r3), some (.int (gI u3 47 26)), none]) rfl ?_
    refine r_iconst dX12_law_32 (v := 0) rfl ?_
    refine r_istore dX12_law_33 (Nat.le_of_ble_eq_true rfl) (ls2 := [some (.ref 47), some (.int r2), some (.int r3), some (.int (gI u3 47 26)), some (.int 0)]) rfl ?_
    refine r_mk [true, false, true, true, true] (ls2 := [some (.ref 47), none, some (.int r3), some (.int (gI u3 47 26)), some (.int 0)]) rfl ?_
    exact sX12_law_35 FU r3 (gI u3 47 26) 0 u3
  · refine r_iload_n dX12_law_14 rfl ?_
    refine r_iconst dX12_law_15 (v := 1) rfl ?_
    refine r_iadd dX12_law_16 ?_
    refine r_sipush dX12_law_17 (v := 10000) rfl ?_
    refine r_isub dX12_law_20 ?_
    exact r_ireturn rfl dX12_law_21
theorem okX12_law (u : US) : ∀ r, fX12_law u = some r → MetC mX12_law 402 [.ref 47] u (tI r) :=
  met_of (by decide +kernel) (Nat.le_of_ble_eq_true rfl) rfl (sX12_law u)
def fX12_laws_58 (k15 : Int32 → Int32 → Int32 → Int32 → US → Option (Int32 × US)) (k23 : Int32 → Int32 → Int32 → Int32 → Int32 → US → Option (Int32 × US)) (v1 : Int32) (v4 : Int32) (v5 : Int32) (u : US) : Option (Int32 × US) :=
  k23 (v1 + 1) v5 v4 v4 (v5 + 1) u
set_option maxRecDepth 20000 in
theorem sX12_laws_58 (k15 : Int32 → Int32 → Int32 → Int32 → US → Option (Int32 × US)) (k23 : Int32 → Int32 → Int32 → Int32 → Int32 → US → Option (Int32 × US)) (hk15 : ∀ (v1 : Int32) (v2 : Int32) (v3 : Int32) (v4 : Int32) (u : US), Sim tI mX12_laws 3 (k15 v1 v2 v3 v4 u) 15 [some (.ref 47), some (.int v1), some (.int v2), some (.int v3), some (.int v4), none] [] u) (hk23 : ∀ (v1 : Int32) (v2 : Int32) (v3 : Int32) (v4 : Int32) (v5 : Int32) (u : US), Sim tI mX12_laws 3 (k23 v1 v2 v3 v4 v5 u) 23 [some (.ref 47), some (.int v1), some (.int v2), some (.int v3), some (.int v4), some (.int v5)] [] u) (v1 : Int32) (v4 : Int32) (v5 : Int32) (u : US) : Sim tI mX12_laws 3 (fX12_laws_58 k15 k23 v1 v4 v5 u) 58 [some (.ref 47), some (.int v1), none, none, some (.int v4), some (.int v5)] [] u := by
  unfold fX12_laws_58
  refine r_iload dX12_laws_58 rfl ?_
  refine r_istore_n dX12_laws_60 (Nat.le_of_ble_eq_true rfl) (ls2 := [some (.ref 47), some (.int v1), some (.int v5), none, some (.int v4), some (.int v5)]) rfl ?_
  refine r_iload dX12_laws_61 rfl ?_
  refine r_istore_n dX12_laws_63 (Nat.le_of_ble_eq_true rfl) (ls2 := [some (.ref 47), some (.int v1), some (.int v5), some (.int v4), some (.int v4), some (.int v5)]) rfl ?_
  refine r_iinc dX12_laws_64 (Nat.le_of_ble_eq_true rfl) rfl (v := v1 + 1) rfl (ls2 := [some (.ref 47), some (.int (v1 + 1)), some (.int v5), some (.int v4), some (.int v4), some (.int v5)]) rfl ?_
  refine r_iinc dX12_laws_67 (Nat.le_of_ble_eq_true rfl) rfl (v := v5 + 1) rfl (ls2 := [some (.ref 47), some (.int (v1 + 1)), some (.int v5), some (.int v4), some (.int v4), some (.int (v5 + 1))]) rfl ?_
  refine r_goto dX12_laws_70 (tgt := 23) rfl ?_
  exact hk23 (v1 + 1) v5 v4 v4 (v5 + 1) u
def fX12_laws_23 (k15 : Int32 → Int32 → Int32 → Int32 → US → Option (Int32 × US)) : Nat → Int32 → Int32 → Int32 → Int32 → Int32 → US → Option (Int32 × US)
  | 0, _, _, _, _, _, _ => none
  | n + 1, v1, v2, v3, v4, v5, u => (if (256 : Int32) ≤ v5 then k15 v1 v2 v3 (v4 + (-1)) u else oB (fX12_isLaw v5 v4 u) fun r1 u1 => (if r1 = 0 then fX12_laws_23 k15 n v1 v2 v3 v4 (v5 + 1) u1 else (if v1 = 0 then fX12_laws_58 k15 (fX12_laws_23 k15 n) v1 v4 v5 u1 else oB (fJ6_bitCount_0f7a4 v5 u1) fun r2 u2 => oB (fJ6_bitCount_0f7a4 v2 u2) fun r3 u3 => (if r3 ≤ r2 then fX12_laws_23 k15 n (v1 + 1) v2 v3 v4 (v5 + 1) u3 else fX12_laws_58 k15 (fX12_laws_23 k15 n) v1 v4 v5 u3))))
set_option maxRecDepth 20000 in
theorem sX12_laws_23 (k15 : Int32 → Int32 → Int32 → Int32 → US → Option (Int32 × US)) (hk15 : ∀ (v1 : Int32) (v2 : Int32) (v3 : Int32) (v4 : Int32) (u : US), Sim tI mX12_laws 3 (k15 v1 v2 v3 v4 u) 15 [some (.ref 47), some (.int v1), some (.int v2), some (.int v3), some (.int v4), none] [] u) : ∀ (n : Nat) (v1 : Int32) (v2 : Int32) (v3 : Int32) (v4 : Int32) (v5 : Int32) (u : US), Sim tI mX12_laws 3 (fX12_laws_23 k15 n v1 v2 v3 v4 v5 u) 23 [some (.ref 47), some (.int v1), some (.int v2), some (.int v3), some (.int v4), some (.int v5)] [] u := by
  intro n
  induction n with
  | zero =>
    intro v1 v2 v3 v4 v5 u
    rw [fX12_laws_23.eq_1]
    exact r_none
  | succ n ih =>
    intro v1 v2 v3 v4 v5 u
    rw [fX12_laws_23.eq_2]
    refine r_iload dX12_laws_23 rfl ?_
    refine r_sipush dX12_laws_25 (v := 256) rfl ?_
    refine r_icmp_ge dX12_laws_28 (tgt := 73) rfl ?_ ?_
    · refine r_iinc dX12_laws_73 (Nat.le_of_ble_eq_true rfl) rfl (v := v4 + (-1)) rfl (ls2 := [some (.ref 47), some (.int v1), some (.int v2), some (.int v3), some (.int (v4 + (-1))), some (.int v5)]) rfl ?_
      refine r_goto dX12_laws_76 (tgt := 15) rfl ?_
      refine r_mk [true, true, true, true, true, false] (ls2 := [some (.ref 47), some (.int v1), some (.int v2), some (.int v3), some (.int (v4 + (-1))), none]) rfl ?_
      exact hk15 v1 v2 v3 (v4 + (-1)) u
    · refine r_aload_n dX12_laws_31 rfl ?_
      refine r_iload dX12_laws_32 rfl ?_
      refine r_iload dX12_laws_34 rfl ?_
      refine c_VI (As := [.int v5, .int v4]) kvX12_433 rfl (by decide) (okX12_isLaw v5 v4 u) rfl (Nat.le_of_ble_eq_true rfl) rfl dX12_laws_36 (fun r1 u1 => ?_)
      refine r_if_eq dX12_laws_39 (tgt := 67) rfl ?_ ?_
      · refine r_iinc dX12_laws_67 (Nat.le_of_ble_eq_true rfl) rfl (v := v5 + 1) rfl (ls2 := [some (.ref 47), some (.int v1), some (.int v2), some (.int v3), some (.int v4), some (.int (v5 + 1))]) rfl ?_
        refine r_goto dX12_laws_70 (tgt := 23) rfl ?_
        exact ih v1 v2 v3 v4 (v5 + 1) u1
      · refine r_iload_n dX12_laws_42 rfl ?_
        refine r_if_eq dX12_laws_43 (tgt := 58) rfl ?_ ?_
        · refine r_mk [true, true, false, false, true, true] (ls2 := [some (.ref 47), some (.int v1), none, none, some (.int v4), some (.int v5)]) rfl ?_
          exact sX12_laws_58 k15 (fX12_laws_23 k15 n) hk15 ih v1 v4 v5 u1
        · refine r_iload dX12_laws_46 rfl ?_
          refine c_SI (As := [.int v5]) ksX12_300 (by decide) (okJ6_bitCount_0f7a4 v5 u1) rfl (Nat.le_of_ble_eq_true rfl) rfl dX12_laws_48 (fun r2 u2 => ?_)
          refine r_iload_n dX12_laws_51 rfl ?_
          refine c_SI (As := [.int v2]) ksX12_300 (by decide) (okJ6_bitCount_0f7a4 v2 u2) rfl (Nat.le_of_ble_eq_true rfl) rfl dX12_laws_52 (fun r3 u3 => ?_)
          refine r_icmp_ge dX12_laws_55 (tgt := 64) rfl ?_ ?_
          · refine r_iinc dX12_laws_64 (Nat.le_of_ble_eq_true rfl) rfl (v := v1 + 1) rfl (ls2 := [some (.ref 47), some (.int (v1 + 1)), some (.int v2), some (.int v3), some (.int v4), some (.int v5)]) rfl ?_
            refine r_iinc dX12_laws_67 (Nat.le_of_ble_eq_true rfl) rfl (v := v5 + 1) rfl (ls2 := [some (.ref 47), some (.int (v1 + 1)), some (.int v2), some (.int v3), some (.int v4), some (.int (v5 + 1))]) rfl ?_
            refine r_goto dX12_laws_70 (tgt := 23) rfl ?_
            exact ih (v1 + 1) v2 v3 v4 (v5 + 1) u3
          · refine r_mk [true, true, false, false, true, true] (ls2 := [some (.ref 47), some (.int v1), none, none, some (.int v4), some (.int v5)]) rfl ?_
            exact sX12_laws_58 k15 (fX12_laws_23 k15 n) hk15 ih v1 v4 v5 u3
def fX12_laws_15 : Nat → Int32 → Int32 → Int32 → Int32 → US → Option (Int32 × US)
  | 0, _, _, _, _, _ => none
  | n + 1, v1, v2, v3, v4, u => (if v4 < 0 then nx (sI u 47 1 0) fun u1 => (if v1 ≤ 0 then some (v1, u1) else oV (fX12_enters ((v2 : Int32).toInt64) u1) fun u2 => oV (fX12_enters ((v3 : Int32).toInt64) u2) fun u3 => some (v1, u3)) else fX12_laws_23 (fX12_laws_15 n) FU v1 v2 v3 v4 0 u)
set_option maxRecDepth 20000 in
theorem sX12_laws_15 : ∀ (n : Nat) (v1 : Int32) (v2 : Int32) (v3 : Int32) (v4 : Int32) (u : US), Sim tI mX12_laws 3 (fX12_laws_15 n v1 v2 v3 v4 u) 15 [some (.ref 47), some (.int v1), some (.int v2), some (.int v3), some (.int v4), none] [] u := by
  intro n
  induction n with
  | zero =>
    intro v1 v2 v3 v4 u
    rw [fX12_laws_15.eq_1]
    exact r_none
  | succ n ih =>
    intro v1 v2 v3 v4 u
    rw [fX12_laws_15.eq_2]
    refine r_iload dX12_laws_15 rfl ?_
    refine r_if_lt dX12_laws_17 (tgt := 79) rfl ?_ ?_
    · refine r_aload_n dX12_laws_79 rfl ?_
      refine r_iconst dX12_laws_80 (v := 0) rfl ?_
      refine r_put 47 1 fpX12_15 rfl rfl dX12_laws_81 (r_nx (fun u1 => ?_))
      refine r_iload_n dX12_laws_84 rfl ?_
      refine r_if_le dX12_laws_85 (tgt := 100) rfl ?_ ?_
      · refine r_iload_n dX12_laws_100 rfl ?_
        exact r_ireturn rfl dX12_laws_101
      · refine r_aload_n dX12_laws_88 rfl ?_
        refine r_iload_n dX12_laws_89 rfl ?_
        refine r_i2l dX12_laws_90 ?_
        refine c_VV (As := [.long ((v2 : Int32).toInt64)]) kvX12_387 rfl (by decide) (okX12_enters ((v2 : Int32).toInt64) u1) rfl (Nat.le_of_ble_eq_true rfl) rfl dX12_laws_91 (fun u2 => ?_)
        refine r_aload_n dX12_laws_94 rfl ?_
        refine r_iload_n dX12_laws_95 rfl ?_
        refine r_i2l dX12_laws_96 ?_
        refine c_VV (As := [.long ((v3 : Int32).toInt64)]) kvX12_387 rfl (by decide) (okX12_enters ((v3 : Int32).toInt64) u2) rfl (Nat.le_of_ble_eq_true rfl) rfl dX12_laws_97 (fun u3 => ?_)
        refine r_iload_n dX12_laws_100 rfl ?_
        exact r_ireturn rfl dX12_laws_101
    · refine r_iconst dX12_laws_20 (v := 0) rfl ?_
      refine r_istore dX12_laws_21 (Nat.le_of_ble_eq_true rfl) (ls2 := [some (.ref 47), some (.int v1), some (.int v2), some (.int v3), some (.int v4), some (.int 0)]) rfl ?_
      exact sX12_laws_23 (fX12_laws_15 n) ih FU v1 v2 v3 v4 0 u
def fX12_laws (u : US) : Option (Int32 × US) :=
  nx (sI u 47 0 0) fun u1 => fX12_laws_15 FU 0 0 0 9 u1
set_option maxRecDepth 20000 in
theorem sX12_laws (u : US) : Sim tI mX12_laws 3 (fX12_laws u) 0 [some (.ref 47), none, none, none, none, none] [] u := by
  unfold fX12_laws
  refine r_aload_n dX12_laws_0 rfl ?_
  refine r_iconst dX12_laws_1 (v := 0) rfl ?_
  refine r_put 47 0 fpX12_3 rfl rfl dX12_laws_2 (r_nx (fun u1 => ?_))
  refine r_iconst dX12_laws_5 (v := 0) rfl ?_
  refine r_istore_n dX12_laws_6 (Nat.le_of_ble_eq_true rfl) (ls2 := [some (.ref 47), some (.int 0), none, none, none, none]) rfl ?_
  refine r_iconst dX12_laws_7 (v := 0) rfl ?_
  refine r_istore_n dX12_laws_8 (Nat.le_of_ble_eq_true rfl) (ls2 := [some (.ref 47), some (.int 0), some (.int 0), none, none, none]) rfl ?_
  refine r_iconst dX12_laws_9 (v := 0) rfl ?_
  refine r_istore_n dX12_laws_10 (Nat.le_of_ble_eq_true rfl) (ls2 := [some (.ref 47), some (.int 0), some (.int 0), some (.int 0), none, none]) rfl ?_
  refine r_bipush dX12_laws_11 (v := 9) rfl ?_
  refine r_istore dX12_laws_13 (Nat.le_of_ble_eq_true rfl) (ls2 := [some (.ref 47), some (.int 0), some (.int 0), some (.int 0), some (.int 9), none]) rfl ?_
  exact sX12_laws_15 FU 0 0 0 9 u1
theorem okX12_laws (u : US) : ∀ r, fX12_laws u = some r → MetC mX12_laws 3 [.ref 47] u (tI r) :=
  met_of (by decide +kernel) (Nat.le_of_ble_eq_true rfl) rfl (sX12_laws u)
def fX12_meets_60 (v1 : Int32) (k21 : Int32 → US → Option (Int32 × US)) (k40 : Int32 → Int32 → Int32 → US → Option (Int32 × US)) : Nat → Int32 → Int32 → Int32 → Int32 → Int32 → US → Option (Int32 × US)
  | 0, _, _, _, _, _, _ => none
  | n + 1, v2, v3, v4, v5, v6, u => (if (gI u 47 5) ≤ v6 then oB (fJ6_bitCount_0f7a4 v5 u) fun r1 u1 => (if r1 ≤ 1 then k40 v2 v3 (v4 + 1) u1 else nx (sI u1 47 1 0) fun u2 => oV (fX12_enters ((v4 : Int32).toInt64) u2) fun u3 => oV (fX12_enters ((v5 : Int32).toInt64) u3) fun u4 => some (v2, u4)) else oB (fX12_has v3 v6 u) fun r5 u5 => (if r5 = 0 then fX12_meets_60 v1 k21 k40 n v2 v3 v4 (v5 ||| 0) (v6 + 1) u5 else gd (inb v6 26) ((if (gA u5 56 v6) = v4 then fX12_meets_60 v1 k21 k40 n v2 v3 v4 (v5 ||| (1 <<< (v6 &&& 31))) (v6 + 1) u5 else fX12_meets_60 v1 k21 k40 n v2 v3 v4 (v5 ||| 0) (v6 + 1) u5))))
set_option maxRecDepth 20000 in
theorem sX12_meets_60 (v1 : Int32) (k21 : Int32 → US → Option (Int32 × US)) (k40 : Int32 → Int32 → Int32 → US → Option (Int32 × US)) (hk21 : ∀ (v2 : Int32) (u : US), Sim tI mX12_meets 10 (k21 v2 u) 21 [some (.ref 47), some (.int v1), some (.int v2), none, none, none, none] [] u) (hk40 : ∀ (v2 : Int32) (v3 : Int32) (v4 : Int32) (u : US), Sim tI mX12_meets 10 (k40 v2 v3 v4 u) 40 [some (.ref 47), some (.int v1), some (.int v2), some (.int v3), some (.int v4), none, none] [] u) : ∀ (n : Nat) (v2 : Int32) (v3 : Int32) (v4 : Int32) (v5 : Int32) (v6 : Int32) (u : US), Sim tI mX12_meets 10 (fX12_meets_60 v1 k21 k40 n v2 v3 v4 v5 v6 u) 60 [some (.ref 47), some (.int v1), some (.int v2), some (.int v3), some (.int v4), some (.int v5), some (.int v6)] [] u := by
  intro n
  induction n with
  | zero =>
    intro v2 v3 v4 v5 v6 u
    rw [fX12_meets_60.eq_1]
    exact r_none
  | succ n ih =>
    intro v2 v3 v4 v5 v6 u
    rw [fX12_meets_60.eq_2]
    refine r_iload dX12_meets_60 rfl ?_
    refine r_aload_n dX12_meets_62 rfl ?_
    refine r_get 47 5 flX12_140 rfl (v := .int (gI u 47 5)) rfl dX12_meets_63 ?_
    refine r_icmp_ge dX12_meets_66 (tgt := 109) rfl ?_ ?_
    · refine r_iload dX12_meets_109 rfl ?_
      refine c_SI (As := [.int v5]) ksX12_300 (by decide) (okJ6_bitCount_0f7a4 v5 u) rfl (Nat.le_of_ble_eq_true rfl) rfl dX12_meets_111 (fun r1 u1 => ?_)
      refine r_iconst dX12_meets_114 (v := 1) rfl ?_
      refine r_icmp_le dX12_meets_115 (tgt := 139) rfl ?_ ?_
      · refine r_iinc dX12_meets_139 (Nat.le_of_ble_eq_true rfl) rfl (v := v4 + 1) rfl (ls2 := [some (.ref 47), some (.int v1), some (.int v2), some (.int v3), some (.int (v4 + 1)), some (.int v5), some (.int v6)]) rfl ?_
        refine r_goto dX12_meets_142 (tgt := 40) rfl ?_
        refine r_mk [true, true, true, true, true, false, false] (ls2 := [some (.ref 47), some (.int v1), some (.int v2), some (.int v3), some (.int (v4 + 1)), none, none]) rfl ?_
        exact hk40 v2 v3 (v4 + 1) u1
      · refine r_aload_n dX12_meets_118 rfl ?_
        refine r_iconst dX12_meets_119 (v := 0) rfl ?_
        refine r_put 47 1 fpX12_15 rfl rfl dX12_meets_120 (r_nx (fun u2 => ?_))
        refine r_aload_n dX12_meets_123 rfl ?_
        refine r_iload dX12_meets_124 rfl ?_
        refine r_i2l dX12_meets_126 ?_
        refine c_VV (As := [.long ((v4 : Int32).toInt64)]) kvX12_387 rfl (by decide) (okX12_enters ((v4 : Int32).toInt64) u2) rfl (Nat.le_of_ble_eq_true rfl) rfl dX12_meets_127 (fun u3 => ?_)
        refine r_aload_n dX12_meets_130 rfl ?_
        refine r_iload dX12_meets_131 rfl ?_
        refine r_i2l dX12_meets_133 ?_
        refine c_VV (As := [.long ((v5 : Int32).toInt64)]) kvX12_387 rfl (by decide) (okX12_enters ((v5 : Int32).toInt64) u3) rfl (Nat.le_of_ble_eq_true rfl) rfl dX12_meets_134 (fun u4 => ?_)
        refine r_iload_n dX12_meets_137 rfl ?_
        exact r_ireturn rfl dX12_meets_138
    · refine r_iload dX12_meets_69 rfl ?_
      refine r_iload_n dX12_meets_71 rfl ?_
      refine r_iload dX12_meets_72 rfl ?_
      refine c_SI (As := [.int v3, .int v6]) ksX12_296 (by decide) (okX12_has v3 v6 u) rfl (Nat.le_of_ble_eq_true rfl) rfl dX12_meets_74 (fun r5 u5 => ?_)
      refine r_if_eq dX12_meets_77 (tgt := 99) rfl ?_ ?_
      · refine r_iconst dX12_meets_99 (v := 0) rfl ?_
        refine r_ior dX12_meets_100 ?_
        refine r_istore dX12_meets_101 (Nat.le_of_ble_eq_true rfl) (ls2 := [some (.ref 47), some (.int v1), some (.int v2), some (.int v3), some (.int v4), some (.int (v5 ||| 0)), some (.int v6)]) rfl ?_
        refine r_iinc dX12_meets_103 (Nat.le_of_ble_eq_true rfl) rfl (v := v6 + 1) rfl (ls2 := [some (.ref 47), some (.int v1), some (.int v2), some (.int v3), some (.int v4), some (.int (v5 ||| 0)), some (.int (v6 + 1))]) rfl ?_
        refine r_goto dX12_meets_106 (tgt := 60) rfl ?_
        exact ih v2 v3 v4 (v5 ||| 0) (v6 + 1) u5
      · refine r_aload_n dX12_meets_80 rfl ?_
        refine r_get 47 16 flX12_52 rfl (v := .ref 56) rfl dX12_meets_81 ?_
        refine r_iload dX12_meets_84 rfl ?_
        refine r_iald 56 rfl dX12_meets_86 ?_
        refine r_iload dX12_meets_87 rfl ?_
        refine r_icmp_ne dX12_meets_89 (tgt := 99) rfl ?_ ?_
        · refine r_iconst dX12_meets_99 (v := 0) rfl ?_
          refine r_ior dX12_meets_100 ?_
          refine r_istore dX12_meets_101 (Nat.le_of_ble_eq_true rfl) (ls2 := [some (.ref 47), some (.int v1), some (.int v2), some (.int v3), some (.int v4), some (.int (v5 ||| 0)), some (.int v6)]) rfl ?_
          refine r_iinc dX12_meets_103 (Nat.le_of_ble_eq_true rfl) rfl (v := v6 + 1) rfl (ls2 := [some (.ref 47), some (.int v1), some (.int v2), some (.int v3), some (.int v4), some (.int (v5 ||| 0)), some (.int (v6 + 1))]) rfl ?_
          refine r_goto dX12_meets_106 (tgt := 60) rfl ?_
          exact ih v2 v3 v4 (v5 ||| 0) (v6 + 1) u5
        · refine r_iconst dX12_meets_92 (v := 1) rfl ?_
          refine r_iload dX12_meets_93 rfl ?_
          refine r_ishl dX12_meets_95 ?_
          refine r_goto dX12_meets_96 (tgt := 100) rfl ?_
          refine r_ior dX12_meets_100 ?_
          refine r_istore dX12_meets_101 (Nat.le_of_ble_eq_true rfl) (ls2 := [some (.ref 47), some (.int v1), some (.int v2), some (.int v3), some (.int v4), some (.int (v5 ||| (1 <<< (v6 &&& 31)))), some (.int v6)]) rfl ?_
          refine r_iinc dX12_meets_103 (Nat.le_of_ble_eq_true rfl) rfl (v := v6 + 1) rfl (ls2 := [some (.ref 47), some (.int v1), some (.int v2), some (.int v3), some (.int v4), some (.int (v5 ||| (1 <<< (v6 &&& 31)))), some (.int (v6 + 1))]) rfl ?_
          refine r_goto dX12_meets_106 (tgt := 60) rfl ?_
          exact ih v2 v3 v4 (v5 ||| (1 <<< (v6 &&& 31))) (v6 + 1) u5
def fX12_meets_40 (v1 : Int32) (k21 : Int32 → US → Option (Int32 × US)) : Nat → Int32 → Int32 → Int32 → US → Option (Int32 × US)
  | 0, _, _, _, _ => none
  | n + 1, v2, v3, v4, u => (if ((gI u 47 3) * (gI u 47 4)) ≤ v4 then oV (fX12_hourGoes 56 u) fun u1 => k21 (v2 + 1) u1 else fX12_meets_60 v1 k21 (fX12_meets_40 v1 k21 n) FU v2 v3 v4 0 0 u)
set_option maxRecDepth 20000 in
theorem sX12_meets_40 (v1 : Int32) (k21 : Int32 → US → Option (Int32 × US)) (hk21 : ∀ (v2 : Int32) (u : US), Sim tI mX12_meets 10 (k21 v2 u) 21 [some (.ref 47), some (.int v1), some (.int v2), none, none, none, none] [] u) : ∀ (n : Nat) (v2 : Int32) (v3 : Int32) (v4 : Int32) (u : US), Sim tI mX12_meets 10 (fX12_meets_40 v1 k21 n v2 v3 v4 u) 40 [some (.ref 47), some (.int v1), some (.int v2), some (.int v3), some (.int v4), none, none] [] u := by
  intro n
  induction n with
  | zero =>
    intro v2 v3 v4 u
    rw [fX12_meets_40.eq_1]
    exact r_none
  | succ n ih =>
    intro v2 v3 v4 u
    rw [fX12_meets_40.eq_2]
    refine r_iload dX12_meets_40 rfl ?_
    refine r_aload_n dX12_meets_42 rfl ?_
    refine r_get 47 3 flX12_24 rfl (v := .int (gI u 47 3)) rfl dX12_meets_43 ?_
    refine r_aload_n dX12_meets_46 rfl ?_
    refine r_get 47 4 flX12_27 rfl (v := .int (gI u 47 4)) rfl dX12_meets_47 ?_
    refine r_imul dX12_meets_50 ?_
    refine r_icmp_ge dX12_meets_51 (tgt := 145) rfl ?_ ?_
    · refine r_aload_n dX12_meets_145 rfl ?_
      refine r_aload_n dX12_meets_146 rfl ?_
      refine r_get 47 16 flX12_52 rfl (v := .ref 56) rfl dX12_meets_147 ?_
      refine c_VV (As := [.ref 56]) kvX12_360 rfl (by decide) (okX12_hourGoes 56 u) rfl (Nat.le_of_ble_eq_true rfl) rfl dX12_meets_150 (fun u1 => ?_)
      refine r_iinc dX12_meets_153 (Nat.le_of_ble_eq_true rfl) rfl (v := v2 + 1) rfl (ls2 := [some (.ref 47), some (.int v1), some (.int (v2 + 1)), some (.int v3), some (.int v4), none, none]) rfl ?_
      refine r_goto dX12_meets_156 (tgt := 21) rfl ?_
      refine r_mk [true, true, true, false, false, false, false] (ls2 := [some (.ref 47), some (.int v1), some (.int (v2 + 1)), none, none, none, none]) rfl ?_
      exact hk21 (v2 + 1) u1
    · refine r_iconst dX12_meets_54 (v := 0) rfl ?_
      refine r_istore dX12_meets_55 (Nat.le_of_ble_eq_true rfl) (ls2 := [some (.ref 47), some (.int v1), some (.int v2), some (.int v3), some (.int v4), some (.int 0), none]) rfl ?_
      refine r_iconst dX12_meets_57 (v := 0) rfl ?_
      refine r_istore dX12_meets_58 (Nat.le_of_ble_eq_true rfl) (ls2 := [some (.ref 47), some (.int v1), some (.int v2), some (.int v3), some (.int v4), some (.int 0), some (.int 0)]) rfl ?_
      exact sX12_meets_60 v1 k21 (fX12_meets_40 v1 k21 n) hk21 ih FU v2 v3 v4 0 0 u
def fX12_meets_21 (v1 : Int32) : Nat → Int32 → US → Option (Int32 × US)
  | 0, _, _ => none
  | n + 1, v2, u => (if (99 : Int32) < v2 then some ((-2), u) else oB (fX12_seen 56 v1 u) fun r1 u1 => fX12_meets_40 v1 (fX12_meets_21 v1 n) FU v2 r1 0 u1)
set_option maxRecDepth 20000 in
theorem sX12_meets_21 (v1 : Int32) : ∀ (n : Nat) (v2 : Int32) (u : US), Sim tI mX12_meets 10 (fX12_meets_21 v1 n v2 u) 21 [some (.ref 47), some (.int v1), some (.int v2), none, none, none, none] [] u := by
  intro n
  induction n with
  | zero =>
    intro v2 u
    rw [fX12_meets_21.eq_1]
    exact r_none
  | succ n ih =>
    intro v2 u
    rw [fX12_meets_21.eq_2]
    refine r_iload_n dX12_meets_21 rfl ?_
    refine r_bipush dX12_meets_22 (v := 99) rfl ?_
    refine r_icmp_gt dX12_meets_24 (tgt := 159) rfl ?_ ?_
    · refine r_bipush dX12_meets_159 (v := -2) rfl ?_
      exact r_ireturn rfl dX12_meets_161
    · refine r_aload_n dX12_meets_27 rfl ?_
      refine r_aload_n dX12_meets_28 rfl ?_
      refine r_get 47 16 flX12_52 rfl (v := .ref 56) rfl dX12_meets_29 ?_
      refine r_iload_n dX12_meets_32 rfl ?_
      refine c_VI (As := [.ref 56, .int v1]) kvX12_340 rfl (by decide) (okX12_seen 56 v1 u) rfl (Nat.le_of_ble_eq_true rfl) rfl dX12_meets_33 (fun r1 u1 => ?_)
      refine r_istore_n dX12_meets_36 (Nat.le_of_ble_eq_true rfl) (ls2 := [some (.ref 47), some (.int v1), some (.int v2), some (.int r1), none, none, none]) rfl ?_
      refine r_iconst dX12_meets_37 (v := 0) rfl ?_
      refine r_istore dX12_meets_38 (Nat.le_of_ble_eq_true rfl) (ls2 := [some (.ref 47), some (.int v1), some (.int v2), some (.int r1), some (.int 0), none, none]) rfl ?_
      exact sX12_meets_40 v1 (fX12_meets_21 v1 n) ih FU v2 r1 0 u1
def fX12_meets (v1 : Int32) (u : US) : Option (Int32 × US) :=
  nx (sI u 47 0 0) fun u1 => oB (fX12_isRoom v1 u1) fun r2 u2 => (if r2 = 0 then some ((-1), u2) else oV (fX12_copies u2) fun u3 => fX12_meets_21 v1 FU 0 u3)
set_option maxRecDepth 20000 in
theorem sX12_meets (v1 : Int32) (u : US) : Sim tI mX12_meets 10 (fX12_meets v1 u) 0 [some (.ref 47), some (.int v1), none, none, none, none, none] [] u := by
  unfold fX12_meets
  refine r_aload_n dX12_meets_0 rfl ?_
  refine r_iconst dX12_meets_1 (v := 0) rfl ?_
  refine r_put 47 0 fpX12_3 rfl rfl dX12_meets_2 (r_nx (fun u1 => ?_))
  refine r_aload_n dX12_meets_5 rfl ?_
  refine r_iload_n dX12_meets_6 rfl ?_
  refine c_VI (As := [.int v1]) kvX12_346 rfl (by decide) (okX12_isRoom v1 u1) rfl (Nat.le_of_ble_eq_true rfl) rfl dX12_meets_7 (fun r2 u2 => ?_)
  refine r_if_ne dX12_meets_10 (tgt := 15) rfl ?_ ?_
  · refine r_aload_n dX12_meets_15 rfl ?_
    refine c_VV (As := []) kvX12_407 rfl (by decide) (okX12_copies u2) rfl (Nat.le_of_ble_eq_true rfl) rfl dX12_meets_16 (fun u3 => ?_)
    refine r_iconst dX12_meets_19 (v := 0) rfl ?_
    refine r_istore_n dX12_meets_20 (Nat.le_of_ble_eq_true rfl) (ls2 := [some (.ref 47), some (.int v1), some (.int 0), none, none, none, none]) rfl ?_
    exact sX12_meets_21 v1 FU 0 u3
  · refine r_iconst dX12_meets_13 (v := -1) rfl ?_
    exact r_ireturn rfl dX12_meets_14
theorem okX12_meets (v1 : Int32) (u : US) : ∀ r, fX12_meets v1 u = some r → MetC mX12_meets 10 [.ref 47, .int v1] u (tI r) :=
  met_of (by decide +kernel) (Nat.le_of_ble_eq_true rfl) rfl (sX12_meets v1 u)
def fX12_next_177 (k68 : Int32 → Int32 → Int32 → Int32 → US → Option (Int32 × US)) (k78 : Int32 → Int32 → Int32 → Int32 → Int32 → US → Option (Int32 × US)) (v1 : Int32) (v3 : Int32) (v4 : Int32) (v5 : Int32) (v7 : Int32) (s0 : Int32) (u : US) : Option (Int32 × US) :=
  k78 v1 s0 (if v7 < v3 then v7 else v3) v4 (v5 + 1) u
set_option maxRecDepth 20000 in
theorem sX12_next_177 (k68 : Int32 → Int32 → Int32 → Int32 → US → Option (Int32 × US)) (k78 : Int32 → Int32 → Int32 → Int32 → Int32 → US → Option (Int32 × US)) (hk68 : ∀ (v1 : Int32) (v2 : Int32) (v3 : Int32) (v4 : Int32) (u : US), Sim tI mX12_next 5 (k68 v1 v2 v3 v4 u) 68 [some (.ref 47), some (.int v1), some (.int v2), some (.int v3), some (.int v4), none, none, none] [] u) (hk78 : ∀ (v1 : Int32) (v2 : Int32) (v3 : Int32) (v4 : Int32) (v5 : Int32) (u : US), Sim tI mX12_next 5 (k78 v1 v2 v3 v4 v5 u) 78 [some (.ref 47), some (.int v1), some (.int v2), some (.int v3), some (.int v4), some (.int v5), none, none] [] u) (v1 : Int32) (v3 : Int32) (v4 : Int32) (v5 : Int32) (v7 : Int32) (s0 : Int32) (u : US) : Sim tI mX12_next 5 (fX12_next_177 k68 k78 v1 v3 v4 v5 v7 s0 u) 177 [some (.ref 47), some (.int v1), none, some (.int v3), some (.int v4), some (.int v5), none, some (.int v7)] [.int s0] u := by
  unfold fX12_next_177
  refine r_istore_n dX12_next_177 (Nat.le_of_ble_eq_true rfl) (ls2 := [some (.ref 47), some (.int v1), some (.int s0), some (.int v3), some (.int v4), some (.int v5), none, some (.int v7)]) rfl ?_
  refine r_iload_n dX12_next_178 rfl ?_
  refine r_iload dX12_next_179 rfl ?_
  refine r_min kmX12_168 ktMath_min knMath kcMath_min (by decide) (Nat.le_of_ble_eq_true rfl) dX12_next_181 ?_
  refine r_istore_n dX12_next_184 (Nat.le_of_ble_eq_true rfl) (ls2 := [some (.ref 47), some (.int v1), some (.int s0), some (.int (if v7 < v3 then v7 else v3)), some (.int v4), some (.int v5), none, some (.int v7)]) rfl ?_
  refine r_iinc dX12_next_185 (Nat.le_of_ble_eq_true rfl) rfl (v := v5 + 1) rfl (ls2 := [some (.ref 47), some (.int v1), some (.int s0), some (.int (if v7 < v3 then v7 else v3)), some (.int v4), some (.int (v5 + 1)), none, some (.int v7)]) rfl ?_
  refine r_goto dX12_next_188 (tgt := 78) rfl ?_
  refine r_mk [true, true, true, true, true, true, false, false] (ls2 := [some (.ref 47), some (.int v1), some (.int s0), some (.int (if v7 < v3 then v7 else v3)), some (.int v4), some (.int (v5 + 1)), none, none]) rfl ?_
  exact hk78 v1 s0 (if v7 < v3 then v7 else v3) v4 (v5 + 1) u
def fX12_next_136 (k68 : Int32 → Int32 → Int32 → Int32 → US → Option (Int32 × US)) (k78 : Int32 → Int32 → Int32 → Int32 → Int32 → US → Option (Int32 × US)) (k91 : Int32 → Int32 → Int32 → Int32 → Int32 → Int32 → Int32 → US → Option (Int32 × US)) (v1 : Int32) (v2 : Int32) (v3 : Int32) (v4 : Int32) (v5 : Int32) (v7 : Int32) (s0 : Int32) (s1 : Int32) (u : US) : Option (Int32 × US) :=
  oB (fX12_flag s1 u) fun r1 u1 => k91 v1 v2 v3 v4 v5 (s0 + r1) (v7 + 1) u1
set_option maxRecDepth 20000 in
theorem sX12_next_136 (k68 : Int32 → Int32 → Int32 → Int32 → US → Option (Int32 × US)) (k78 : Int32 → Int32 → Int32 → Int32 → Int32 → US → Option (Int32 × US)) (k91 : Int32 → Int32 → Int32 → Int32 → Int32 → Int32 → Int32 → US → Option (Int32 × US)) (hk68 : ∀ (v1 : Int32) (v2 : Int32) (v3 : Int32) (v4 : Int32) (u : US), Sim tI mX12_next 5 (k68 v1 v2 v3 v4 u) 68 [some (.ref 47), some (.int v1), some (.int v2), some (.int v3), some (.int v4), none, none, none] [] u) (hk78 : ∀ (v1 : Int32) (v2 : Int32) (v3 : Int32) (v4 : Int32) (v5 : Int32) (u : US), Sim tI mX12_next 5 (k78 v1 v2 v3 v4 v5 u) 78 [some (.ref 47), some (.int v1), some (.int v2), some (.int v3), some (.int v4), some (.int v5), none, none] [] u) (hk91 : ∀ (v1 : Int32) (v2 : Int32) (v3 : Int32) (v4 : Int32) (v5 : Int32) (v6 : Int32) (v7 : Int32) (u : US), Sim tI mX12_next 5 (k91 v1 v2 v3 v4 v5 v6 v7 u) 91 [some (.ref 47), some (.int v1), some (.int v2), some (.int v3), some (.int v4), some (.int v5), some (.int v6), some (.int v7)] [] u) (v1 : Int32) (v2 : Int32) (v3 : Int32) (v4 : Int32) (v5 : Int32) (v7 : Int32) (s0 : Int32) (s1 : Int32) (u : US) : Sim tI mX12_next 5 (fX12_next_136 k68 k78 k91 v1 v2 v3 v4 v5 v7 s0 s1 u) 136 [some (.ref 47), some (.int v1), some (.int v2), some (.int v3), some (.int v4), some (.int v5), none, some (.int v7)] [.int s1, .int s0] u := by
  unfold fX12_next_136
  refine c_SI (As := [.int s1]) ksX12_175 (by decide) (okX12_flag s1 u) rfl (Nat.le_of_ble_eq_true rfl) rfl dX12_next_136 (fun r1 u1 => ?_)
  refine r_iadd dX12_next_139 ?_
  refine r_istore dX12_next_140 (Nat.le_of_ble_eq_true rfl) (ls2 := [some (.ref 47), some (.int v1), some (.int v2), some (.int v3), some (.int v4), some (.int v5), some (.int (s0 + r1)), some (.int v7)]) rfl ?_
  refine r_iinc dX12_next_142 (Nat.le_of_ble_eq_true rfl) rfl (v := v7 + 1) rfl (ls2 := [some (.ref 47), some (.int v1), some (.int v2), some (.int v3), some (.int v4), some (.int v5), some (.int (s0 + r1)), some (.int (v7 + 1))]) rfl ?_
  refine r_goto dX12_next_145 (tgt := 91) rfl ?_
  exact hk91 v1 v2 v3 v4 v5 (s0 + r1) (v7 + 1) u1
def fX12_next_135 (k68 : Int32 → Int32 → Int32 → Int32 → US → Option (Int32 × US)) (k78 : Int32 → Int32 → Int32 → Int32 → Int32 → US → Option (Int32 × US)) (k91 : Int32 → Int32 → Int32 → Int32 → Int32 → Int32 → Int32 → US → Option (Int32 × US)) (v1 : Int32) (v2 : Int32) (v3 : Int32) (v4 : Int32) (v5 : Int32) (v7 : Int32) (s0 : Int32) (u : US) : Option (Int32 × US) :=
  fX12_next_136 k68 k78 k91 v1 v2 v3 v4 v5 v7 s0 0 u
set_option maxRecDepth 20000 in
theorem sX12_next_135 (k68 : Int32 → Int32 → Int32 → Int32 → US → Option (Int32 × US)) (k78 : Int32 → Int32 → Int32 → Int32 → Int32 → US → Option (Int32 × US)) (k91 : Int32 → Int32 → Int32 → Int32 → Int32 → Int32 → Int32 → US → Option (Int32 × US)) (hk68 : ∀ (v1 : Int32) (v2 : Int32) (v3 : Int32) (v4 : Int32) (u : US), Sim tI mX12_next 5 (k68 v1 v2 v3 v4 u) 68 [some (.ref 47), some (.int v1), some (.int v2), some (.int v3), some (.int v4), none, none, none] [] u) (hk78 : ∀ (v1 : Int32) (v2 : Int32) (v3 : Int32) (v4 : Int32) (v5 : Int32) (u : US), Sim tI mX12_next 5 (k78 v1 v2 v3 v4 v5 u) 78 [some (.ref 47), some (.int v1), some (.int v2), some (.int v3), some (.int v4), some (.int v5), none, none] [] u) (hk91 : ∀ (v1 : Int32) (v2 : Int32) (v3 : Int32) (v4 : Int32) (v5 : Int32) (v6 : Int32) (v7 : Int32) (u : US), Sim tI mX12_next 5 (k91 v1 v2 v3 v4 v5 v6 v7 u) 91 [some (.ref 47), some (.int v1), some (.int v2), some (.int v3), some (.int v4), some (.int v5), some (.int v6), some (.int v7)] [] u) (v1 : Int32) (v2 : Int32) (v3 : Int32) (v4 : Int32) (v5 : Int32) (v7 : Int32) (s0 : Int32) (u : US) : Sim tI mX12_next 5 (fX12_next_135 k68 k78 k91 v1 v2 v3 v4 v5 v7 s0 u) 135 [some (.ref 47), some (.int v1), some (.int v2), some (.int v3), some (.int v4), some (.int v5), none, some (.int v7)] [.int s0] u := by
  unfold fX12_next_135
  refine r_iconst dX12_next_135 (v := 0) rfl ?_
  exact sX12_next_136 k68 k78 k91 hk68 hk78 hk91 v1 v2 v3 v4 v5 v7 s0 0 u
def fX12_next_91 (k68 : Int32 → Int32 → Int32 → Int32 → US → Option (Int32 × US)) (k78 : Int32 → Int32 → Int32 → Int32 → Int32 → US → Option (Int32 × US)) : Nat → Int32 → Int32 → Int32 → Int32 → Int32 → Int32 → Int32 → US → Option (Int32 × US)
  | 0, _, _, _, _, _, _, _, _ => none
  | n + 1, v1, v2, v3, v4, v5, v6, v7, u => (if (2560 : Int32) ≤ v7 then (if v3 ≤ (if v6 < (v1 - v6) then v1 - v6 else v6) then fX12_next_177 k68 k78 v1 v3 v4 v5 (if v6 < (v1 - v6) then v1 - v6 else v6) v2 u else fX12_next_177 k68 k78 v1 v3 v4 v5 (if v6 < (v1 - v6) then v1 - v6 else v6) ((10 * v4) + v5) u) else gd (inb v7 2560) ((if (gA u 77 v7) = 0 then fX12_next_135 k68 k78 (fX12_next_91 k68 k78 n) v1 v2 v3 v4 v5 v7 v6 u else if (10 : Int32) = 0 then none else if (10 : Int32) = 0 then none else oB (fX12_shows (v7 / 10) (v7 - v7 / 10 * 10) v4 v5 u) fun r1 u1 => (if r1 = 0 then fX12_next_135 k68 k78 (fX12_next_91 k68 k78 n) v1 v2 v3 v4 v5 v7 v6 u1 else fX12_next_136 k68 k78 (fX12_next_91 k68 k78 n) v1 v2 v3 v4 v5 v7 v6 1 u1))))
set_option maxRecDepth 20000 in
theorem sX12_next_91 (k68 : Int32 → Int32 → Int32 → Int32 → US → Option (Int32 × US)) (k78 : Int32 → Int32 → Int32 → Int32 → Int32 → US → Option (Int32 × US)) (hk68 : ∀ (v1 : Int32) (v2 : Int32) (v3 : Int32) (v4 : Int32) (u : US), Sim tI mX12_next 5 (k68 v1 v2 v3 v4 u) 68 [some (.ref 47), some (.int v1), some (.int v2), some (.int v3), some (.int v4), none, none, none] [] u) (hk78 : ∀ (v1 : Int32) (v2 : Int32) (v3 : Int32) (v4 : Int32) (v5 : Int32) (u : US), Sim tI mX12_next 5 (k78 v1 v2 v3 v4 v5 u) 78 [some (.ref 47), some (.int v1), some (.int v2), some (.int v3), some (.int v4), some (.int v5), none, none] [] u) : ∀ (n : Nat) (v1 : Int32) (v2 : Int32) (v3 : Int32) (v4 : Int32) (v5 : Int32) (v6 : Int32) (v7 : Int32) (u : US), Sim tI mX12_next 5 (fX12_next_91 k68 k78 n v1 v2 v3 v4 v5 v6 v7 u) 91 [some (.ref 47), some (.int v1), some (.int v2), some (.int v3), some (.int v4), some (.int v5), some (.int v6), some (.int v7)] [] u := by
  intro n
  induction n with
  | zero =>
    intro v1 v2 v3 v4 v5 v6 v7 u
    rw [fX12_next_91.eq_1]
    exact r_none
  | succ n ih =>
    intro v1 v2 v3 v4 v5 v6 v7 u
    rw [fX12_next_91.eq_2]
    refine r_iload dX12_next_91 rfl ?_
    refine r_sipush dX12_next_93 (v := 2560) rfl ?_
    refine r_icmp_ge dX12_next_96 (tgt := 148) rfl ?_ ?_
    · refine r_iload dX12_next_148 rfl ?_
      refine r_iload_n dX12_next_150 rfl ?_
      refine r_iload dX12_next_151 rfl ?_
      refine r_isub dX12_next_153 ?_
      refine r_max kmX12_351 ktMath_max knMath kcMath_max (by decide) (Nat.le_of_ble_eq_true rfl) dX12_next_154 ?_
      refine r_istore dX12_next_157 (Nat.le_of_ble_eq_true rfl) (ls2 := [some (.ref 47), some (.int v1), some (.int v2), some (.int v3), some (.int v4), some (.int v5), some (.int v6), some (.int (if v6 < (v1 - v6) then v1 - v6 else v6))]) rfl ?_
      refine r_iload dX12_next_159 rfl ?_
      refine r_iload_n dX12_next_161 rfl ?_
      refine r_icmp_ge dX12_next_162 (tgt := 176) rfl ?_ ?_
      · refine r_iload_n dX12_next_176 rfl ?_
        refine r_mk [true, true, false, true, true, true, false, true] (ls2 := [some (.ref 47), some (.int v1), none, some (.int v3), some (.int v4), some (.int v5), none, some (.int (if v6 < (v1 - v6) then v1 - v6 else v6))]) rfl ?_
        exact sX12_next_177 k68 k78 hk68 hk78 v1 v3 v4 v5 (if v6 < (v1 - v6) then v1 - v6 else v6) v2 u
      · refine r_bipush dX12_next_165 (v := 10) rfl ?_
        refine r_iload dX12_next_167 rfl ?_
        refine r_imul dX12_next_169 ?_
        refine r_iload dX12_next_170 rfl ?_
        refine r_iadd dX12_next_172 ?_
        refine r_goto dX12_next_173 (tgt := 177) rfl ?_
        refine r_mk [true, true, false, true, true, true, false, true] (ls2 := [some (.ref 47), some (.int v1), none, some (.int v3), some (.int v4), some (.int v5), none, some (.int (if v6 < (v1 - v6) then v1 - v6 else v6))]) rfl ?_
        exact sX12_next_177 k68 k78 hk68 hk78 v1 v3 v4 v5 (if v6 < (v1 - v6) then v1 - v6 else v6) ((10 * v4) + v5) u
    · refine r_iload dX12_next_99 rfl ?_
      refine r_aload_n dX12_next_101 rfl ?_
      refine r_get 47 47 flX12_116 rfl (v := .ref 77) rfl dX12_next_102 ?_
      refine r_iload dX12_next_105 rfl ?_
      refine r_zald 77 rfl dX12_next_107 ?_
      refine r_if_eq dX12_next_108 (tgt := 135) rfl ?_ ?_
      · refine r_mk [true, true, true, true, true, true, false, true] (ls2 := [some (.ref 47), some (.int v1), some (.int v2), some (.int v3), some (.int v4), some (.int v5), none, some (.int v7)]) rfl ?_
        exact sX12_next_135 k68 k78 (fX12_next_91 k68 k78 n) hk68 hk78 ih v1 v2 v3 v4 v5 v7 v6 u
      · refine r_iload dX12_next_111 rfl ?_
        refine r_bipush dX12_next_113 (v := 10) rfl ?_
        refine r_idiv dX12_next_115 ?_
        refine r_iload dX12_next_116 rfl ?_
        refine r_bipush dX12_next_118 (v := 10) rfl ?_
        refine r_irem dX12_next_120 ?_
        refine r_iload dX12_next_121 rfl ?_
        refine r_iload dX12_next_123 rfl ?_
        refine c_SI (As := [.int (v7 / 10), .int (v7 - v7 / 10 * 10), .int v4, .int v5]) ksX12_429 (by decide) (okX12_shows (v7 / 10) (v7 - v7 / 10 * 10) v4 v5 u) rfl (Nat.le_of_ble_eq_true rfl) rfl dX12_next_125 (fun r1 u1 => ?_)
        refine r_if_eq dX12_next_128 (tgt := 135) rfl ?_ ?_
        · refine r_mk [true, true, true, true, true, true, false, true] (ls2 := [some (.ref 47), some (.int v1), some (.int v2), some (.int v3), some (.int v4), some (.int v5), none, some (.int v7)]) rfl ?_
          exact sX12_next_135 k68 k78 (fX12_next_91 k68 k78 n) hk68 hk78 ih v1 v2 v3 v4 v5 v7 v6 u1
        · refine r_iconst dX12_next_131 (v := 1) rfl ?_
          refine r_goto dX12_next_132 (tgt := 136) rfl ?_
          refine r_mk [true, true, true, true, true, true, false, true] (ls2 := [some (.ref 47), some (.int v1), some (.int v2), some (.int v3), some (.int v4), some (.int v5), none, some (.int v7)]) rfl ?_
          exact sX12_next_136 k68 k78 (fX12_next_91 k68 k78 n) hk68 hk78 ih v1 v2 v3 v4 v5 v7 v6 1 u1
def fX12_next_78 (k68 : Int32 → Int32 → Int32 → Int32 → US → Option (Int32 × US)) : Nat → Int32 → Int32 → Int32 → Int32 → Int32 → US → Option (Int32 × US)
  | 0, _, _, _, _, _, _ => none
  | n + 1, v1, v2, v3, v4, v5, u => (if (9 : Int32) < v5 then k68 v1 v2 v3 (v4 + 1) u else fX12_next_91 k68 (fX12_next_78 k68 n) FU v1 v2 v3 v4 v5 0 0 u)
set_option maxRecDepth 20000 in
theorem sX12_next_78 (k68 : Int32 → Int32 → Int32 → Int32 → US → Option (Int32 × US)) (hk68 : ∀ (v1 : Int32) (v2 : Int32) (v3 : Int32) (v4 : Int32) (u : US), Sim tI mX12_next 5 (k68 v1 v2 v3 v4 u) 68 [some (.ref 47), some (.int v1), some (.int v2), some (.int v3), some (.int v4), none, none, none] [] u) : ∀ (n : Nat) (v1 : Int32) (v2 : Int32) (v3 : Int32) (v4 : Int32) (v5 : Int32) (u : US), Sim tI mX12_next 5 (fX12_next_78 k68 n v1 v2 v3 v4 v5 u) 78 [some (.ref 47), some (.int v1), some (.int v2), some (.int v3), some (.int v4), some (.int v5), none, none] [] u := by
  intro n
  induction n with
  | zero =>
    intro v1 v2 v3 v4 v5 u
    rw [fX12_next_78.eq_1]
    exact r_none
  | succ n ih =>
    intro v1 v2 v3 v4 v5 u
    rw [fX12_next_78.eq_2]
    refine r_iload dX12_next_78 rfl ?_
    refine r_bipush dX12_next_80 (v := 9) rfl ?_
    refine r_icmp_gt dX12_next_82 (tgt := 191) rfl ?_ ?_
    · refine r_iinc dX12_next_191 (Nat.le_of_ble_eq_true rfl) rfl (v := v4 + 1) rfl (ls2 := [some (.ref 47), some (.int v1), some (.int v2), some (.int v3), some (.int (v4 + 1)), some (.int v5), none, none]) rfl ?_
      refine r_goto dX12_next_194 (tgt := 68) rfl ?_
      refine r_mk [true, true, true, true, true, false, false, false] (ls2 := [some (.ref 47), some (.int v1), some (.int v2), some (.int v3), some (.int (v4 + 1)), none, none, none]) rfl ?_
      exact hk68 v1 v2 v3 (v4 + 1) u
    · refine r_iconst dX12_next_85 (v := 0) rfl ?_
      refine r_istore dX12_next_86 (Nat.le_of_ble_eq_true rfl) (ls2 := [some (.ref 47), some (.int v1), some (.int v2), some (.int v3), some (.int v4), some (.int v5), some (.int 0), none]) rfl ?_
      refine r_iconst dX12_next_88 (v := 0) rfl ?_
      refine r_istore dX12_next_89 (Nat.le_of_ble_eq_true rfl) (ls2 := [some (.ref 47), some (.int v1), some (.int v2), some (.int v3), some (.int v4), some (.int v5), some (.int 0), some (.int 0)]) rfl ?_
      exact sX12_next_91 k68 (fX12_next_78 k68 n) hk68 ih FU v1 v2 v3 v4 v5 0 0 u
def fX12_next_68 : Nat → Int32 → Int32 → Int32 → Int32 → US → Option (Int32 × US)
  | 0, _, _, _, _, _ => none
  | n + 1, v1, v2, v3, v4, u => (if (8 : Int32) ≤ v4 then nx (sI u 47 1 0) fun u1 => oV (fX12_enters ((v3 : Int32).toInt64) u1) fun u2 => some (v2, u2) else fX12_next_78 (fX12_next_68 n) FU v1 v2 v3 v4 0 u)
set_option maxRecDepth 20000 in
theorem sX12_next_68 : ∀ (n : Nat) (v1 : Int32) (v2 : Int32) (v3 : Int32) (v4 : Int32) (u : US), Sim tI mX12_next 5 (fX12_next_68 n v1 v2 v3 v4 u) 68 [some (.ref 47), some (.int v1), some (.int v2), some (.int v3), some (.int v4), none, none, none] [] u := by
  intro n
  induction n with
  | zero =>
    intro v1 v2 v3 v4 u
    rw [fX12_next_68.eq_1]
    exact r_none
  | succ n ih =>
    intro v1 v2 v3 v4 u
    rw [fX12_next_68.eq_2]
    refine r_iload dX12_next_68 rfl ?_
    refine r_bipush dX12_next_70 (v := 8) rfl ?_
    refine r_icmp_ge dX12_next_72 (tgt := 197) rfl ?_ ?_
    · refine r_aload_n dX12_next_197 rfl ?_
      refine r_iconst dX12_next_198 (v := 0) rfl ?_
      refine r_put 47 1 fpX12_15 rfl rfl dX12_next_199 (r_nx (fun u1 => ?_))
      refine r_aload_n dX12_next_202 rfl ?_
      refine r_iload_n dX12_next_203 rfl ?_
      refine r_i2l dX12_next_204 ?_
      refine c_VV (As := [.long ((v3 : Int32).toInt64)]) kvX12_387 rfl (by decide) (okX12_enters ((v3 : Int32).toInt64) u1) rfl (Nat.le_of_ble_eq_true rfl) rfl dX12_next_205 (fun u2 => ?_)
      refine r_iload_n dX12_next_208 rfl ?_
      exact r_ireturn rfl dX12_next_209
    · refine r_iconst dX12_next_75 (v := 0) rfl ?_
      refine r_istore dX12_next_76 (Nat.le_of_ble_eq_true rfl) (ls2 := [some (.ref 47), some (.int v1), some (.int v2), some (.int v3), some (.int v4), some (.int 0), none, none]) rfl ?_
      exact sX12_next_78 (fX12_next_68 n) ih FU v1 v2 v3 v4 0 u
def fX12_next_9 : Nat → Int32 → Int32 → US → Option (Int32 × US)
  | 0, _, _, _ => none
  | n + 1, v1, v2, u => (if (2560 : Int32) ≤ v2 then (if v1 = 0 then some ((-2), u) else fX12_next_68 FU v1 (-1) 1000000 0 u) else if (10 : Int32) = 0 then none else if (10 : Int32) = 0 then none else oB (fX12_isLaw (v2 / 10) (v2 - v2 / 10 * 10) u) fun r1 u1 => gd (inb v2 2560) (nx (sA u1 77 v2 (vp_nar .boolean r1)) fun u2 => gd (inb v2 2560) (oB (fX12_flag (gA u2 77 v2) u2) fun r3 u3 => fX12_next_9 n (v1 + r3) (v2 + 1) u3)))
set_option maxRecDepth 20000 in
theorem sX12_next_9 : ∀ (n : Nat) (v1 : Int32) (v2 : Int32) (u : US), Sim tI mX12_next 5 (fX12_next_9 n v1 v2 u) 9 [some (.ref 47), some (.int v1), some (.int v2), none, none, none, none, none] [] u := by
  intro n
  induction n with
  | zero =>
    intro v1 v2 u
    rw [fX12_next_9.eq_1]
    exact r_none
  | succ n ih =>
    intro v1 v2 u
    rw [fX12_next_9.eq_2]
    refine r_iload_n dX12_next_9 rfl ?_
    refine r_sipush dX12_next_10 (v := 2560) rfl ?_
    refine r_icmp_ge dX12_next_13 (tgt := 52) rfl ?_ ?_
    · refine r_iload_n dX12_next_52 rfl ?_
      refine r_if_ne dX12_next_53 (tgt := 59) rfl ?_ ?_
      · refine r_iconst dX12_next_59 (v := -1) rfl ?_
        refine r_istore_n dX12_next_60 (Nat.le_of_ble_eq_true rfl) (ls2 := [some (.ref 47), some (.int v1), some (.int (-1)), none, none, none, none, none]) rfl ?_
        refine r_ldc_w dX12_next_61 kIX12_413 ?_
        refine r_istore_n dX12_next_64 (Nat.le_of_ble_eq_true rfl) (ls2 := [some (.ref 47), some (.int v1), some (.int (-1)), some (.int 1000000), none, none, none, none]) rfl ?_
        refine r_iconst dX12_next_65 (v := 0) rfl ?_
        refine r_istore dX12_next_66 (Nat.le_of_ble_eq_true rfl) (ls2 := [some (.ref 47), some (.int v1), some (.int (-1)), some (.int 1000000), some (.int 0), none, none, none]) rfl ?_
        exact sX12_next_68 FU v1 (-1) 1000000 0 u
      · refine r_bipush dX12_next_56 (v := -2) rfl ?_
        exact r_ireturn rfl dX12_next_58
    · refine r_aload_n dX12_next_16 rfl ?_
      refine r_get 47 47 flX12_116 rfl (v := .ref 77) rfl dX12_next_17 ?_
      refine r_iload_n dX12_next_20 rfl ?_
      refine r_aload_n dX12_next_21 rfl ?_
      refine r_iload_n dX12_next_22 rfl ?_
      refine r_bipush dX12_next_23 (v := 10) rfl ?_
      refine r_idiv dX12_next_25 ?_
      refine r_iload_n dX12_next_26 rfl ?_
      refine r_bipush dX12_next_27 (v := 10) rfl ?_
      refine r_irem dX12_next_29 ?_
      refine c_VI (As := [.int (v2 / 10), .int (v2 - v2 / 10 * 10)]) kvX12_433 rfl (by decide) (okX12_isLaw (v2 / 10) (v2 - v2 / 10 * 10) u) rfl (Nat.le_of_ble_eq_true rfl) rfl dX12_next_30 (fun r1 u1 => ?_)
      refine r_zast 77 rfl dX12_next_33 (r_nx (fun u2 => ?_))
      refine r_iload_n dX12_next_34 rfl ?_
      refine r_aload_n dX12_next_35 rfl ?_
      refine r_get 47 47 flX12_116 rfl (v := .ref 77) rfl dX12_next_36 ?_
      refine r_iload_n dX12_next_39 rfl ?_
      refine r_zald 77 rfl dX12_next_40 ?_
      refine c_SI (As := [.int (gA u2 77 v2)]) ksX12_175 (by decide) (okX12_flag (gA u2 77 v2) u2) rfl (Nat.le_of_ble_eq_true rfl) rfl dX12_next_41 (fun r3 u3 => ?_)
      refine r_iadd dX12_next_44 ?_
      refine r_istore_n dX12_next_45 (Nat.le_of_ble_eq_true rfl) (ls2 := [some (.ref 47), some (.int (v1 + r3)), some (.int v2), none, none, none, none, none]) rfl ?_
      refine r_iinc dX12_next_46 (Nat.le_of_ble_eq_true rfl) rfl (v := v2 + 1) rfl (ls2 := [some (.ref 47), some (.int (v1 + r3)), some (.int (v2 + 1)), none, none, none, none, none]) rfl ?_
      refine r_goto dX12_next_49 (tgt := 9) rfl ?_
      exact ih (v1 + r3) (v2 + 1) u3
def fX12_next (u : US) : Option (Int32 × US) :=
  nx (sI u 47 0 0) fun u1 => fX12_next_9 FU 0 0 u1
set_option maxRecDepth 20000 in
theorem sX12_next (u : US) : Sim tI mX12_next 5 (fX12_next u) 0 [some (.ref 47), none, none, none, none, none, none, none] [] u := by
  unfold fX12_next
  refine r_aload_n dX12_next_0 rfl ?_
  refine r_iconst dX12_next_1 (v := 0) rfl ?_
  refine r_put 47 0 fpX12_3 rfl rfl dX12_next_2 (r_nx (fun u1 => ?_))
  refine r_iconst dX12_next_5 (v := 0) rfl ?_
  refine r_istore_n dX12_next_6 (Nat.le_of_ble_eq_true rfl) (ls2 := [some (.ref 47), some (.int 0), none, none, none, none, none, none]) rfl ?_
  refine r_iconst dX12_next_7 (v := 0) rfl ?_
  refine r_istore_n dX12_next_8 (Nat.le_of_ble_eq_true rfl) (ls2 := [some (.ref 47), some (.int 0), some (.int 0), none, none, none, none, none]) rfl ?_
  exact sX12_next_9 FU 0 0 u1
theorem okX12_next (u : US) : ∀ r, fX12_next u = some r → MetC mX12_next 5 [.ref 47] u (tI r) :=
  met_of (by decide +kernel) (Nat.le_of_ble_eq_true rfl) rfl (sX12_next u)
def fX12_refuse (u : US) : Option (Int32 × US) :=
  nx (sI u 47 0 1) fun u1 => some (0, u1)
set_option maxRecDepth 20000 in
theorem sX12_refuse (u : US) : Sim tI mX12_refuse 0 (fX12_refuse u) 0 [some (.ref 47)] [] u := by
  unfold fX12_refuse
  refine r_aload_n dX12_refuse_0 rfl ?_
  refine r_iconst dX12_refuse_1 (v := 1) rfl ?_
  refine r_put 47 0 fpX12_3 rfl rfl dX12_refuse_2 (r_nx (fun u1 => ?_))
  refine r_iconst dX12_refuse_5 (v := 0) rfl ?_
  exact r_ireturn rfl dX12_refuse_6
theorem okX12_refuse (u : US) : ∀ r, fX12_refuse u = some r → MetC mX12_refuse 0 [.ref 47] u (tI r) :=
  met_of (by decide +kernel) (Nat.le_of_ble_eq_true rfl) rfl (sX12_refuse u)
def fX12_pane_25 (v1 : Int32) (v2 : Int32) (u : US) : Option (Int32 × US) :=
  oB (fX12_refuse u) fun r1 u1 => some (r1, u1)
set_option maxRecDepth 20000 in
theorem sX12_pane_25 (v1 : Int32) (v2 : Int32) (u : US) : Sim tI mX12_pane 4 (fX12_pane_25 v1 v2 u) 25 [some (.ref 47), some (.int v1), some (.int v2), none, none] [] u := by
  unfold fX12_pane_25
  refine r_aload_n dX12_pane_25 rfl ?_
  refine c_VI (As := []) kvX12_337 rfl (by decide) (okX12_refuse u) rfl (Nat.le_of_ble_eq_true rfl) rfl dX12_pane_26 (fun r1 u1 => ?_)
  exact r_ireturn rfl dX12_pane_29
def fX12_pane_35 (v1 : Int32) (v2 : Int32) : Nat → Int32 → Int32 → US → Option (Int32 × US)
  | 0, _, _, _ => none
  | n + 1, v3, v4, u => (if (gI u 47 5) ≤ v4 then (if v2 = 0 then gd (inb v1 8) (some (gA u 51 v1, u)) else (if v2 = 1 then gd (inb v1 8) (some (gA u 52 v1, u)) else (if v2 = 2 then gd (inb (16 + v1) 26) (some (gA u 55 (16 + v1), u)) else (if v2 = 3 then gd (inb 24 26) (oB (fX12_has (gA u 55 24) v1 u) fun r1 u1 => oB (fX12_flag r1 u1) fun r2 u2 => some (r2, u2)) else some (v3, u))))) else gd (inb v4 8) (gd (inb v4 8) (oB (fX12_lets 55 v1 (gA u 49 v4) (gA u 50 v4) u) fun r3 u3 => (if r3 = 0 then fX12_pane_35 v1 v2 n (v3 ||| 0) (v4 + 1) u3 else fX12_pane_35 v1 v2 n (v3 ||| (1 <<< (v4 &&& 31))) (v4 + 1) u3))))
set_option maxRecDepth 20000 in
theorem sX12_pane_35 (v1 : Int32) (v2 : Int32) : ∀ (n : Nat) (v3 : Int32) (v4 : Int32) (u : US), Sim tI mX12_pane 4 (fX12_pane_35 v1 v2 n v3 v4 u) 35 [some (.ref 47), some (.int v1), some (.int v2), some (.int v3), some (.int v4)] [] u := by
  intro n
  induction n with
  | zero =>
    intro v3 v4 u
    rw [fX12_pane_35.eq_1]
    exact r_none
  | succ n ih =>
    intro v3 v4 u
    rw [fX12_pane_35.eq_2]
    refine r_iload dX12_pane_35 rfl ?_
    refine r_aload_n dX12_pane_37 rfl ?_
    refine r_get 47 5 flX12_140 rfl (v := .int (gI u 47 5)) rfl dX12_pane_38 ?_
    refine r_icmp_ge dX12_pane_41 (tgt := 87) rfl ?_ ?_
    · refine r_iload_n dX12_pane_87 rfl ?_
      refine r_ite (fun hc0 => ?_) (fun hc0 => ?_)
      · refine r_tabIn dX12_pane_88 (off := 32) (by rw [hc0]; decide) (by rw [hc0]; decide) (by rw [hc0]; rfl) (tgt := 120) rfl ?_
        refine r_aload_n dX12_pane_120 rfl ?_
        refine r_get 47 11 flX12_37 rfl (v := .ref 51) rfl dX12_pane_121 ?_
        refine r_iload_n dX12_pane_124 rfl ?_
        refine r_iald 51 rfl dX12_pane_125 ?_
        exact r_ireturn rfl dX12_pane_126
      refine r_ite (fun hc1 => ?_) (fun hc1 => ?_)
      · refine r_tabIn dX12_pane_88 (off := 39) (by rw [hc1]; decide) (by rw [hc1]; decide) (by rw [hc1]; rfl) (tgt := 127) rfl ?_
        refine r_aload_n dX12_pane_127 rfl ?_
        refine r_get 47 12 flX12_40 rfl (v := .ref 52) rfl dX12_pane_128 ?_
        refine r_iload_n dX12_pane_131 rfl ?_
        refine r_iald 52 rfl dX12_pane_132 ?_
        exact r_ireturn rfl dX12_pane_133
      refine r_ite (fun hc2 => ?_) (fun hc2 => ?_)
      · refine r_tabIn dX12_pane_88 (off := 46) (by rw [hc2]; decide) (by rw [hc2]; decide) (by rw [hc2]; rfl) (tgt := 134) rfl ?_
        refine r_aload_n dX12_pane_134 rfl ?_
        refine r_get 47 15 flX12_49 rfl (v := .ref 55) rfl dX12_pane_135 ?_
        refine r_bipush dX12_pane_138 (v := 16) rfl ?_
        refine r_iload_n dX12_pane_140 rfl ?_
        refine r_iadd dX12_pane_141 ?_
        refine r_iald 55 rfl dX12_pane_142 ?_
        exact r_ireturn rfl dX12_pane_143
      refine r_ite (fun hc3 => ?_) (fun hc3 => ?_)
      · refine r_tabIn dX12_pane_88 (off := 56) (by rw [hc3]; decide) (by rw [hc3]; decide) (by rw [hc3]; rfl) (tgt := 144) rfl ?_
        refine r_aload_n dX12_pane_144 rfl ?_
        refine r_get 47 15 flX12_49 rfl (v := .ref 55) rfl dX12_pane_145 ?_
        refine r_bipush dX12_pane_148 (v := 24) rfl ?_
        refine r_iald 55 rfl dX12_pane_150 ?_
        refine r_iload_n dX12_pane_151 rfl ?_
        refine c_SI (As := [.int (gA u 55 24), .int v1]) ksX12_296 (by decide) (okX12_has (gA u 55 24) v1 u) rfl (Nat.le_of_ble_eq_true rfl) rfl dX12_pane_152 (fun r1 u1 => ?_)
        refine c_SI (As := [.int r1]) ksX12_175 (by decide) (okX12_flag r1 u1) rfl (Nat.le_of_ble_eq_true rfl) rfl dX12_pane_155 (fun r2 u2 => ?_)
        exact r_ireturn rfl dX12_pane_158
      have hn0 := ne_int hc0
      have hn1 := ne_int hc1
      have hn2 := ne_int hc2
      have hn3 := ne_int hc3
      rw [show (0 : Int32).toInt = 0 from rfl] at hn0
      rw [show (1 : Int32).toInt = 1 from rfl] at hn1
      rw [show (2 : Int32).toInt = 2 from rfl] at hn2
      rw [show (3 : Int32).toInt = 3 from rfl] at hn3
      refine r_tabOut dX12_pane_88 (by omega) (tgt := 159) rfl ?_
      refine r_iload_n dX12_pane_159 rfl ?_
      exact r_ireturn rfl dX12_pane_160
    · refine r_iload_n dX12_pane_44 rfl ?_
      refine r_aload_n dX12_pane_45 rfl ?_
      refine r_aload_n dX12_pane_46 rfl ?_
      refine r_get 47 15 flX12_49 rfl (v := .ref 55) rfl dX12_pane_47 ?_
      refine r_iload_n dX12_pane_50 rfl ?_
      refine r_aload_n dX12_pane_51 rfl ?_
      refine r_get 47 9 flX12_30 rfl (v := .ref 49) rfl dX12_pane_52 ?_
      refine r_iload dX12_pane_55 rfl ?_
      refine r_iald 49 rfl dX12_pane_57 ?_
      refine r_aload_n dX12_pane_58 rfl ?_
      refine r_get 47 10 flX12_34 rfl (v := .ref 50) rfl dX12_pane_59 ?_
      refine r_iload dX12_pane_62 rfl ?_
      refine r_iald 50 rfl dX12_pane_64 ?_
      refine c_VI (As := [.ref 55, .int v1, .int (gA u 49 v4), .int (gA u 50 v4)]) kvX12_308 rfl (by decide) (okX12_lets 55 v1 (gA u 49 v4) (gA u 50 v4) u) rfl (Nat.le_of_ble_eq_true rfl) rfl dX12_pane_65 (fun r3 u3 => ?_)
      refine r_if_eq dX12_pane_68 (tgt := 78) rfl ?_ ?_
      · refine r_iconst dX12_pane_78 (v := 0) rfl ?_
        refine r_ior dX12_pane_79 ?_
        refine r_istore_n dX12_pane_80 (Nat.le_of_ble_eq_true rfl) (ls2 := [some (.ref 47), some (.int v1), some (.int v2), some (.int (v3 ||| 0)), some (.int v4)]) rfl ?_
        refine r_iinc dX12_pane_81 (Nat.le_of_ble_eq_true rfl) rfl (v := v4 + 1) rfl (ls2 := [some (.ref 47), some (.int v1), some (.int v2), some (.int (v3 ||| 0)), some (.int (v4 + 1))]) rfl ?_
        refine r_goto dX12_pane_84 (tgt := 35) rfl ?_
        exact ih (v3 ||| 0) (v4 + 1) u3
      · refine r_iconst dX12_pane_71 (v := 1) rfl ?_
        refine r_iload dX12_pane_72 rfl ?_
        refine r_ishl dX12_pane_74 ?_
        refine r_goto dX12_pane_75 (tgt := 79) rfl ?_
        refine r_ior dX12_pane_79 ?_
        refine r_istore_n dX12_pane_80 (Nat.le_of_ble_eq_true rfl) (ls2 := [some (.ref 47), some (.int v1), some (.int v2), some (.int (v3 ||| (1 <<< (v4 &&& 31)))), some (.int v4)]) rfl ?_
        refine r_iinc dX12_pane_81 (Nat.le_of_ble_eq_true rfl) rfl (v := v4 + 1) rfl (ls2 := [some (.ref 47), some (.int v1), some (.int v2), some (.int (v3 ||| (1 <<< (v4 &&& 31)))), some (.int (v4 + 1))]) rfl ?_
        refine r_goto dX12_pane_84 (tgt := 35) rfl ?_
        exact ih (v3 ||| (1 <<< (v4 &&& 31))) (v4 + 1) u3
def fX12_pane (v1 : Int32) (v2 : Int32) (u : US) : Option (Int32 × US) :=
  nx (sI u 47 0 0) fun u1 => oB (fX12_isPane v1 u1) fun r2 u2 => (if r2 = 0 then fX12_pane_25 v1 v2 u2 else oB (fX12_in ((v2 : Int32).toInt64) 0 4 u2) fun r3 u3 => (if r3 = 0 then fX12_pane_25 v1 v2 u3 else fX12_pane_35 v1 v2 FU 0 0 u3))
set_option maxRecDepth 20000 in
theorem sX12_pane (v1 : Int32) (v2 : Int32) (u : US) : Sim tI mX12_pane 4 (fX12_pane v1 v2 u) 0 [some (.ref 47), some (.int v1), some (.int v2), none, none] [] u := by
  unfold fX12_pane
  refine r_aload_n dX12_pane_0 rfl ?_
  refine r_iconst dX12_pane_1 (v := 0) rfl ?_
  refine r_put 47 0 fpX12_3 rfl rfl dX12_pane_2 (r_nx (fun u1 => ?_))
  refine r_aload_n dX12_pane_5 rfl ?_
  refine r_iload_n dX12_pane_6 rfl ?_
  refine c_VI (As := [.int v1]) kvX12_343 rfl (by decide) (okX12_isPane v1 u1) rfl (Nat.le_of_ble_eq_true rfl) rfl dX12_pane_7 (fun r2 u2 => ?_)
  refine r_if_eq dX12_pane_10 (tgt := 25) rfl ?_ ?_
  · exact sX12_pane_25 v1 v2 u2
  · refine r_iload_n dX12_pane_13 rfl ?_
    refine r_i2l dX12_pane_14 ?_
    refine r_lconst dX12_pane_15 (v := 0) rfl ?_
    refine r_ldc2 dX12_pane_16 kJX12_335 ?_
    refine c_SI (As := [.long ((v2 : Int32).toInt64), .long 0, .long 4]) ksX12_143 (by decide) (okX12_in ((v2 : Int32).toInt64) 0 4 u2) rfl (Nat.le_of_ble_eq_true rfl) rfl dX12_pane_19 (fun r3 u3 => ?_)
    refine r_if_ne dX12_pane_22 (tgt := 30) rfl ?_ ?_
    · refine r_iconst dX12_pane_30 (v := 0) rfl ?_
      refine r_istore_n dX12_pane_31 (Nat.le_of_ble_eq_true rfl) (ls2 := [some (.ref 47), some (.int v1), some (.int v2), some (.int 0), none]) rfl ?_
      refine r_iconst dX12_pane_32 (v := 0) rfl ?_
      refine r_istore dX12_pane_33 (Nat.le_of_ble_eq_true rfl) (ls2 := [some (.ref 47), some (.int v1), some (.int v2), some (.int 0), some (.int 0)]) rfl ?_
      exact sX12_pane_35 v1 v2 FU 0 0 u3
    · exact sX12_pane_25 v1 v2 u3
theorem okX12_pane (v1 : Int32) (v2 : Int32) (u : US) : ∀ r, fX12_pane v1 v2 u = some r → MetC mX12_pane 4 [.ref 47, .int v1, .int v2] u (tI r) :=
  met_of (by decide +kernel) (Nat.le_of_ble_eq_true rfl) rfl (sX12_pane v1 v2 u)
def fX12_readsPane_58 (v1 : Int32) (s1 : Int32) (s2 : Int32) (u : US) : Option (Int32 × US) :=
  gd (inb s1 32) (nx (sA u 58 s1 s2) fun u1 => nx (sI u1 47 23 ((gI u1 47 23) + 1)) fun u2 => gd (inb v1 32) ((if (gA u2 58 v1) < 0 then some (0, u2) else some (1, u2))))
set_option maxRecDepth 20000 in
theorem sX12_readsPane_58 (v1 : Int32) (s1 : Int32) (s2 : Int32) (u : US) : Sim tI mX12_readsPane 8 (fX12_readsPane_58 v1 s1 s2 u) 58 [some (.ref 47), some (.int v1)] [.int s2, .int s1, .ref 58] u := by
  unfold fX12_readsPane_58
  refine r_iast 58 rfl dX12_readsPane_58 (r_nx (fun u1 => ?_))
  refine r_aload_n dX12_readsPane_59 rfl ?_
  refine r_dup dX12_readsPane_60 rfl ?_
  refine r_get 47 23 flX12_218 rfl (v := .int (gI u1 47 23)) rfl dX12_readsPane_61 ?_
  refine r_iconst dX12_readsPane_64 (v := 1) rfl ?_
  refine r_iadd dX12_readsPane_65 ?_
  refine r_put 47 23 fpX12_218 rfl rfl dX12_readsPane_66 (r_nx (fun u2 => ?_))
  refine r_aload_n dX12_readsPane_69 rfl ?_
  refine r_get 47 22 flX12_58 rfl (v := .ref 58) rfl dX12_readsPane_70 ?_
  refine r_iload_n dX12_readsPane_73 rfl ?_
  refine r_iald 58 rfl dX12_readsPane_74 ?_
  refine r_if_lt dX12_readsPane_75 (tgt := 82) rfl ?_ ?_
  · refine r_iconst dX12_readsPane_82 (v := 0) rfl ?_
    exact r_zreturn0 rfl dX12_readsPane_83
  · refine r_iconst dX12_readsPane_78 (v := 1) rfl ?_
    refine r_goto dX12_readsPane_79 (tgt := 83) rfl ?_
    exact r_zreturn1 rfl dX12_readsPane_83
def fX12_readsPane (u : US) : Option (Int32 × US) :=
  (if ((gI u 47 6) + (gI u 47 23)) = 8 then some (0, u) else oB (fX12_number 1 u) fun r1 u1 => gd (inb (2 * (gI u 47 23)) 32) (nx (sA u1 58 (2 * (gI u 47 23)) r1) fun u2 => gd (inb (2 * (gI u 47 23)) 32) ((if 0 ≤ (gA u2 58 (2 * (gI u 47 23))) then oB (fX12_letters u2) fun r3 u3 => fX12_readsPane_58 (2 * (gI u 47 23)) ((2 * (gI u 47 23)) + 1) r3 u3 else fX12_readsPane_58 (2 * (gI u 47 23)) ((2 * (gI u 47 23)) + 1) 0 u2))))
set_option maxRecDepth 20000 in
theorem sX12_readsPane (u : US) : Sim tI mX12_readsPane 8 (fX12_readsPane u) 0 [some (.ref 47), none] [] u := by
  unfold fX12_readsPane
  refine r_aload_n dX12_readsPane_0 rfl ?_
  refine r_get 47 6 flX12_147 rfl (v := .int (gI u 47 6)) rfl dX12_readsPane_1 ?_
  refine r_aload_n dX12_readsPane_4 rfl ?_
  refine r_get 47 23 flX12_218 rfl (v := .int (gI u 47 23)) rfl dX12_readsPane_5 ?_
  refine r_iadd dX12_readsPane_8 ?_
  refine r_bipush dX12_readsPane_9 (v := 8) rfl ?_
  refine r_icmp_ne dX12_readsPane_11 (tgt := 16) rfl ?_ ?_
  · refine r_iconst dX12_readsPane_16 (v := 2) rfl ?_
    refine r_aload_n dX12_readsPane_17 rfl ?_
    refine r_get 47 23 flX12_218 rfl (v := .int (gI u 47 23)) rfl dX12_readsPane_18 ?_
    refine r_imul dX12_readsPane_21 ?_
    refine r_istore_n dX12_readsPane_22 (Nat.le_of_ble_eq_true rfl) (ls2 := [some (.ref 47), some (.int (2 * (gI u 47 23)))]) rfl ?_
    refine r_aload_n dX12_readsPane_23 rfl ?_
    refine r_get 47 22 flX12_58 rfl (v := .ref 58) rfl dX12_readsPane_24 ?_
    refine r_iload_n dX12_readsPane_27 rfl ?_
    refine r_aload_n dX12_readsPane_28 rfl ?_
    refine r_iconst dX12_readsPane_29 (v := 1) rfl ?_
    refine c_VI (As := [.int 1]) kvX12_221 rfl (by decide) (okX12_number 1 u) rfl (Nat.le_of_ble_eq_true rfl) rfl dX12_readsPane_30 (fun r1 u1 => ?_)
    refine r_iast 58 rfl dX12_readsPane_33 (r_nx (fun u2 => ?_))
    refine r_aload_n dX12_readsPane_34 rfl ?_
    refine r_get 47 22 flX12_58 rfl (v := .ref 58) rfl dX12_readsPane_35 ?_
    refine r_iload_n dX12_readsPane_38 rfl ?_
    refine r_iconst dX12_readsPane_39 (v := 1) rfl ?_
    refine r_iadd dX12_readsPane_40 ?_
    refine r_aload_n dX12_readsPane_41 rfl ?_
    refine r_get 47 22 flX12_58 rfl (v := .ref 58) rfl dX12_readsPane_42 ?_
    refine r_iload_n dX12_readsPane_45 rfl ?_
    refine r_iald 58 rfl dX12_readsPane_46 ?_
    refine r_if_ge dX12_readsPane_47 (tgt := 54) rfl ?_ ?_
    · refine r_aload_n dX12_readsPane_54 rfl ?_
      refine c_VI (As := []) kvX12_229 rfl (by decide) (okX12_letters u2) rfl (Nat.le_of_ble_eq_true rfl) rfl dX12_readsPane_55 (fun r3 u3 => ?_)
      exact sX12_readsPane_58 (2 * (gI u 47 23)) ((2 * (gI u 47 23)) + 1) r3 u3
    · refine r_iconst dX12_readsPane_50 (v := 0) rfl ?_
      refine r_goto dX12_readsPane_51 (tgt := 58) rfl ?_
      exact sX12_readsPane_58 (2 * (gI u 47 23)) ((2 * (gI u 47 23)) + 1) 0 u2
  · refine r_iconst dX12_readsPane_14 (v := 0) rfl ?_
    exact r_zreturn0 rfl dX12_readsPane_15
theorem okX12_readsPane (u : US) : ∀ r, fX12_readsPane u = some r → MetC mX12_readsPane 8 [.ref 47] u (tI r) :=
  met_of (by decide +kernel) (Nat.le_of_ble_eq_true rfl) rfl (sX12_readsPane u)
def fX12_readsField_31 (v1 : Int32) (s0 : Int32) (u : US) : Option (Int32 × US) :=
  (if 0 ≤ s0 then some (((gI u 47 4) * v1) + s0, u) else some ((-1), u))
set_option maxRecDepth 20000 in
theorem sX12_readsField_31 (v1 : Int32) (s0 : Int32) (u : US) : Sim tI mX12_readsField 2 (fX12_readsField_31 v1 s0 u) 31 [some (.ref 47), some (.int v1), none] [.int s0] u := by
  unfold fX12_readsField_31
  refine r_istore_n dX12_readsField_31 (Nat.le_of_ble_eq_true rfl) (ls2 := [some (.ref 47), some (.int v1), some (.int s0)]) rfl ?_
  refine r_iload_n dX12_readsField_32 rfl ?_
  refine r_if_ge dX12_readsField_33 (tgt := 40) rfl ?_ ?_
  · refine r_aload_n dX12_readsField_40 rfl ?_
    refine r_get 47 4 flX12_27 rfl (v := .int (gI u 47 4)) rfl dX12_readsField_41 ?_
    refine r_iload_n dX12_readsField_44 rfl ?_
    refine r_imul dX12_readsField_45 ?_
    refine r_iload_n dX12_readsField_46 rfl ?_
    refine r_iadd dX12_readsField_47 ?_
    exact r_ireturn rfl dX12_readsField_48
  · refine r_iconst dX12_readsField_36 (v := -1) rfl ?_
    refine r_goto dX12_readsField_37 (tgt := 48) rfl ?_
    exact r_ireturn rfl dX12_readsField_48
def fX12_readsField (u : US) : Option (Int32 × US) :=
  oB (fX12_digitIn 0 ((gI u 47 3) - 1) u) fun r1 u1 => (if 0 ≤ r1 then oB (fX12_digitIn 0 ((gI u1 47 4) - 1) u1) fun r2 u2 => fX12_readsField_31 r1 r2 u2 else fX12_readsField_31 r1 (-1) u1)
set_option maxRecDepth 20000 in
theorem sX12_readsField (u : US) : Sim tI mX12_readsField 2 (fX12_readsField u) 0 [some (.ref 47), none, none] [] u := by
  unfold fX12_readsField
  refine r_aload_n dX12_readsField_0 rfl ?_
  refine r_iconst dX12_readsField_1 (v := 0) rfl ?_
  refine r_aload_n dX12_readsField_2 rfl ?_
  refine r_get 47 3 flX12_24 rfl (v := .int (gI u 47 3)) rfl dX12_readsField_3 ?_
  refine r_iconst dX12_readsField_6 (v := 1) rfl ?_
  refine r_isub dX12_readsField_7 ?_
  refine c_VI (As := [.int 0, .int ((gI u 47 3) - 1)]) kvX12_209 rfl (by decide) (okX12_digitIn 0 ((gI u 47 3) - 1) u) rfl (Nat.le_of_ble_eq_true rfl) rfl dX12_readsField_8 (fun r1 u1 => ?_)
  refine r_istore_n dX12_readsField_11 (Nat.le_of_ble_eq_true rfl) (ls2 := [some (.ref 47), some (.int r1), none]) rfl ?_
  refine r_iload_n dX12_readsField_12 rfl ?_
  refine r_if_ge dX12_readsField_13 (tgt := 20) rfl ?_ ?_
  · refine r_aload_n dX12_readsField_20 rfl ?_
    refine r_iconst dX12_readsField_21 (v := 0) rfl ?_
    refine r_aload_n dX12_readsField_22 rfl ?_
    refine r_get 47 4 flX12_27 rfl (v := .int (gI u1 47 4)) rfl dX12_readsField_23 ?_
    refine r_iconst dX12_readsField_26 (v := 1) rfl ?_
    refine r_isub dX12_readsField_27 ?_
    refine c_VI (As := [.int 0, .int ((gI u1 47 4) - 1)]) kvX12_209 rfl (by decide) (okX12_digitIn 0 ((gI u1 47 4) - 1) u1) rfl (Nat.le_of_ble_eq_true rfl) rfl dX12_readsField_28 (fun r2 u2 => ?_)
    exact sX12_readsField_31 r1 r2 u2
  · refine r_iconst dX12_readsField_16 (v := -1) rfl ?_
    refine r_goto dX12_readsField_17 (tgt := 31) rfl ?_
    exact sX12_readsField_31 r1 (-1) u1
theorem okX12_readsField (u : US) : ∀ r, fX12_readsField u = some r → MetC mX12_readsField 2 [.ref 47] u (tI r) :=
  met_of (by decide +kernel) (Nat.le_of_ble_eq_true rfl) rfl (sX12_readsField u)
def fX12_readsRoom_57 (v1 : Int32) (s1 : Int32) (s2 : Int32) (u : US) : Option (Int32 × US) :=
  gd (inb s1 32) (nx (sA u 58 s1 s2) fun u1 => nx (sI u1 47 23 ((gI u1 47 23) + 1)) fun u2 => gd (inb (v1 + 1) 32) ((if (gA u2 58 (v1 + 1)) < 0 then some (0, u2) else some (1, u2))))
set_option maxRecDepth 20000 in
theorem sX12_readsRoom_57 (v1 : Int32) (s1 : Int32) (s2 : Int32) (u : US) : Sim tI mX12_readsRoom 3 (fX12_readsRoom_57 v1 s1 s2 u) 57 [some (.ref 47), some (.int v1)] [.int s2, .int s1, .ref 58] u := by
  unfold fX12_readsRoom_57
  refine r_iast 58 rfl dX12_readsRoom_57 (r_nx (fun u1 => ?_))
  refine r_aload_n dX12_readsRoom_58 rfl ?_
  refine r_dup dX12_readsRoom_59 rfl ?_
  refine r_get 47 23 flX12_218 rfl (v := .int (gI u1 47 23)) rfl dX12_readsRoom_60 ?_
  refine r_iconst dX12_readsRoom_63 (v := 1) rfl ?_
  refine r_iadd dX12_readsRoom_64 ?_
  refine r_put 47 23 fpX12_218 rfl rfl dX12_readsRoom_65 (r_nx (fun u2 => ?_))
  refine r_aload_n dX12_readsRoom_68 rfl ?_
  refine r_get 47 22 flX12_58 rfl (v := .ref 58) rfl dX12_readsRoom_69 ?_
  refine r_iload_n dX12_readsRoom_72 rfl ?_
  refine r_iconst dX12_readsRoom_73 (v := 1) rfl ?_
  refine r_iadd dX12_readsRoom_74 ?_
  refine r_iald 58 rfl dX12_readsRoom_75 ?_
  refine r_if_lt dX12_readsRoom_76 (tgt := 83) rfl ?_ ?_
  · refine r_iconst dX12_readsRoom_83 (v := 0) rfl ?_
    exact r_zreturn0 rfl dX12_readsRoom_84
  · refine r_iconst dX12_readsRoom_79 (v := 1) rfl ?_
    refine r_goto dX12_readsRoom_80 (tgt := 84) rfl ?_
    exact r_zreturn1 rfl dX12_readsRoom_84
def fX12_readsRoom (u : US) : Option (Int32 × US) :=
  (if ((gI u 47 7) + (gI u 47 23)) = 4 then some (0, u) else oB (fX12_readsField u) fun r1 u1 => gd (inb (2 * (gI u 47 23)) 32) (nx (sA u1 58 (2 * (gI u 47 23)) r1) fun u2 => gd (inb (2 * (gI u 47 23)) 32) ((if 0 ≤ (gA u2 58 (2 * (gI u 47 23))) then oB (fX12_number 1 u2) fun r3 u3 => fX12_readsRoom_57 (2 * (gI u 47 23)) ((2 * (gI u 47 23)) + 1) r3 u3 else fX12_readsRoom_57 (2 * (gI u 47 23)) ((2 * (gI u 47 23)) + 1) (-1) u2))))
set_option maxRecDepth 20000 in
theorem sX12_readsRoom (u : US) : Sim tI mX12_readsRoom 3 (fX12_readsRoom u) 0 [some (.ref 47), none] [] u := by
  unfold fX12_readsRoom
  refine r_aload_n dX12_readsRoom_0 rfl ?_
  refine r_get 47 7 flX12_150 rfl (v := .int (gI u 47 7)) rfl dX12_readsRoom_1 ?_
  refine r_aload_n dX12_readsRoom_4 rfl ?_
  refine r_get 47 23 flX12_218 rfl (v := .int (gI u 47 23)) rfl dX12_readsRoom_5 ?_
  refine r_iadd dX12_readsRoom_8 ?_
  refine r_iconst dX12_readsRoom_9 (v := 4) rfl ?_
  refine r_icmp_ne dX12_readsRoom_10 (tgt := 15) rfl ?_ ?_
  · refine r_iconst dX12_readsRoom_15 (v := 2) rfl ?_
    refine r_aload_n dX12_readsRoom_16 rfl ?_
    refine r_get 47 23 flX12_218 rfl (v := .int (gI u 47 23)) rfl dX12_readsRoom_17 ?_
    refine r_imul dX12_readsRoom_20 ?_
    refine r_istore_n dX12_readsRoom_21 (Nat.le_of_ble_eq_true rfl) (ls2 := [some (.ref 47), some (.int (2 * (gI u 47 23)))]) rfl ?_
    refine r_aload_n dX12_readsRoom_22 rfl ?_
    refine r_get 47 22 flX12_58 rfl (v := .ref 58) rfl dX12_readsRoom_23 ?_
    refine r_iload_n dX12_readsRoom_26 rfl ?_
    refine r_aload_n dX12_readsRoom_27 rfl ?_
    refine c_VI (As := []) kvX12_224 rfl (by decide) (okX12_readsField u) rfl (Nat.le_of_ble_eq_true rfl) rfl dX12_readsRoom_28 (fun r1 u1 => ?_)
    refine r_iast 58 rfl dX12_readsRoom_31 (r_nx (fun u2 => ?_))
    refine r_aload_n dX12_readsRoom_32 rfl ?_
    refine r_get 47 22 flX12_58 rfl (v := .ref 58) rfl dX12_readsRoom_33 ?_
    refine r_iload_n dX12_readsRoom_36 rfl ?_
    refine r_iconst dX12_readsRoom_37 (v := 1) rfl ?_
    refine r_iadd dX12_readsRoom_38 ?_
    refine r_aload_n dX12_readsRoom_39 rfl ?_
    refine r_get 47 22 flX12_58 rfl (v := .ref 58) rfl dX12_readsRoom_40 ?_
    refine r_iload_n dX12_readsRoom_43 rfl ?_
    refine r_iald 58 rfl dX12_readsRoom_44 ?_
    refine r_if_ge dX12_readsRoom_45 (tgt := 52) rfl ?_ ?_
    · refine r_aload_n dX12_readsRoom_52 rfl ?_
      refine r_iconst dX12_readsRoom_53 (v := 1) rfl ?_
      refine c_VI (As := [.int 1]) kvX12_221 rfl (by decide) (okX12_number 1 u2) rfl (Nat.le_of_ble_eq_true rfl) rfl dX12_readsRoom_54 (fun r3 u3 => ?_)
      exact sX12_readsRoom_57 (2 * (gI u 47 23)) ((2 * (gI u 47 23)) + 1) r3 u3
    · refine r_iconst dX12_readsRoom_48 (v := -1) rfl ?_
      refine r_goto dX12_readsRoom_49 (tgt := 57) rfl ?_
      exact sX12_readsRoom_57 (2 * (gI u 47 23)) ((2 * (gI u 47 23)) + 1) (-1) u2
  · refine r_iconst dX12_readsRoom_13 (v := 0) rfl ?_
    exact r_zreturn0 rfl dX12_readsRoom_14
theorem okX12_readsRoom (u : US) : ∀ r, fX12_readsRoom u = some r → MetC mX12_readsRoom 3 [.ref 47] u (tI r) :=
  met_of (by decide +kernel) (Nat.le_of_ble_eq_true rfl) rfl (sX12_readsRoom u)
def fX12_readsThing_116 (v1 : Int32) (s1 : Int32) (s2 : Int32) (u : US) : Option (Int32 × US) :=
  gd (inb s1 32) (nx (sA u 58 s1 s2) fun u1 => nx (sI u1 47 23 ((gI u1 47 23) + 1)) fun u2 => gd (inb (v1 + 3) 32) ((if (gA u2 58 (v1 + 3)) < 0 then some (0, u2) else some (1, u2))))
set_option maxRecDepth 20000 in
theorem sX12_readsThing_116 (v1 : Int32) (s1 : Int32) (s2 : Int32) (u : US) : Sim tI mX12_readsThing 7 (fX12_readsThing_116 v1 s1 s2 u) 116 [some (.ref 47), some (.int v1)] [.int s2, .int s1, .ref 58] u := by
  unfold fX12_readsThing_116
  refine r_iast 58 rfl dX12_readsThing_116 (r_nx (fun u1 => ?_))
  refine r_aload_n dX12_readsThing_117 rfl ?_
  refine r_dup dX12_readsThing_118 rfl ?_
  refine r_get 47 23 flX12_218 rfl (v := .int (gI u1 47 23)) rfl dX12_readsThing_119 ?_
  refine r_iconst dX12_readsThing_122 (v := 1) rfl ?_
  refine r_iadd dX12_readsThing_123 ?_
  refine r_put 47 23 fpX12_218 rfl rfl dX12_readsThing_124 (r_nx (fun u2 => ?_))
  refine r_aload_n dX12_readsThing_127 rfl ?_
  refine r_get 47 22 flX12_58 rfl (v := .ref 58) rfl dX12_readsThing_128 ?_
  refine r_iload_n dX12_readsThing_131 rfl ?_
  refine r_iconst dX12_readsThing_132 (v := 3) rfl ?_
  refine r_iadd dX12_readsThing_133 ?_
  refine r_iald 58 rfl dX12_readsThing_134 ?_
  refine r_if_lt dX12_readsThing_135 (tgt := 142) rfl ?_ ?_
  · refine r_iconst dX12_readsThing_142 (v := 0) rfl ?_
    exact r_zreturn0 rfl dX12_readsThing_143
  · refine r_iconst dX12_readsThing_138 (v := 1) rfl ?_
    refine r_goto dX12_readsThing_139 (tgt := 143) rfl ?_
    exact r_zreturn1 rfl dX12_readsThing_143
def fX12_readsThing_87 (v1 : Int32) (s1 : Int32) (s2 : Int32) (u : US) : Option (Int32 × US) :=
  gd (inb s1 32) (nx (sA u 58 s1 s2) fun u1 => gd (inb (v1 + 2) 32) ((if 0 ≤ (gA u1 58 (v1 + 2)) then oB (fX12_takesOf 101 u1) fun r2 u2 => fX12_readsThing_116 v1 (v1 + 3) r2 u2 else fX12_readsThing_116 v1 (v1 + 3) (-1) u1)))
set_option maxRecDepth 20000 in
theorem sX12_readsThing_87 (v1 : Int32) (s1 : Int32) (s2 : Int32) (u : US) : Sim tI mX12_readsThing 7 (fX12_readsThing_87 v1 s1 s2 u) 87 [some (.ref 47), some (.int v1)] [.int s2, .int s1, .ref 58] u := by
  unfold fX12_readsThing_87
  refine r_iast 58 rfl dX12_readsThing_87 (r_nx (fun u1 => ?_))
  refine r_aload_n dX12_readsThing_88 rfl ?_
  refine r_get 47 22 flX12_58 rfl (v := .ref 58) rfl dX12_readsThing_89 ?_
  refine r_iload_n dX12_readsThing_92 rfl ?_
  refine r_iconst dX12_readsThing_93 (v := 3) rfl ?_
  refine r_iadd dX12_readsThing_94 ?_
  refine r_aload_n dX12_readsThing_95 rfl ?_
  refine r_get 47 22 flX12_58 rfl (v := .ref 58) rfl dX12_readsThing_96 ?_
  refine r_iload_n dX12_readsThing_99 rfl ?_
  refine r_iconst dX12_readsThing_100 (v := 2) rfl ?_
  refine r_iadd dX12_readsThing_101 ?_
  refine r_iald 58 rfl dX12_readsThing_102 ?_
  refine r_if_ge dX12_readsThing_103 (tgt := 110) rfl ?_ ?_
  · refine r_aload_n dX12_readsThing_110 rfl ?_
    refine r_ldcS 1 rfl rfl rfl dX12_readsThing_111 ?_
    refine c_VI (As := [.ref 101]) kvX12_203 rfl (by decide) (okX12_takesOf 101 u1) rfl (Nat.le_of_ble_eq_true rfl) rfl dX12_readsThing_113 (fun r2 u2 => ?_)
    exact sX12_readsThing_116 v1 (v1 + 3) r2 u2
  · refine r_iconst dX12_readsThing_106 (v := -1) rfl ?_
    refine r_goto dX12_readsThing_107 (tgt := 116) rfl ?_
    exact sX12_readsThing_116 v1 (v1 + 3) (-1) u1
def fX12_readsThing_60 (v1 : Int32) (s1 : Int32) (s2 : Int32) (u : US) : Option (Int32 × US) :=
  gd (inb s1 32) (nx (sA u 58 s1 s2) fun u1 => gd (inb (v1 + 1) 32) ((if 0 ≤ (gA u1 58 (v1 + 1)) then oB (fX12_readsField u1) fun r2 u2 => fX12_readsThing_87 v1 (v1 + 2) r2 u2 else fX12_readsThing_87 v1 (v1 + 2) (-1) u1)))
set_option maxRecDepth 20000 in
theorem sX12_readsThing_60 (v1 : Int32) (s1 : Int32) (s2 : Int32) (u : US) : Sim tI mX12_readsThing 7 (fX12_readsThing_60 v1 s1 s2 u) 60 [some (.ref 47), some (.int v1)] [.int s2, .int s1, .ref 58] u := by
  unfold fX12_readsThing_60
  refine r_iast 58 rfl dX12_readsThing_60 (r_nx (fun u1 => ?_))
  refine r_aload_n dX12_readsThing_61 rfl ?_
  refine r_get 47 22 flX12_58 rfl (v := .ref 58) rfl dX12_readsThing_62 ?_
  refine r_iload_n dX12_readsThing_65 rfl ?_
  refine r_iconst dX12_readsThing_66 (v := 2) rfl ?_
  refine r_iadd dX12_readsThing_67 ?_
  refine r_aload_n dX12_readsThing_68 rfl ?_
  refine r_get 47 22 flX12_58 rfl (v := .ref 58) rfl dX12_readsThing_69 ?_
  refine r_iload_n dX12_readsThing_72 rfl ?_
  refine r_iconst dX12_readsThing_73 (v := 1) rfl ?_
  refine r_iadd dX12_readsThing_74 ?_
  refine r_iald 58 rfl dX12_readsThing_75 ?_
  refine r_if_ge dX12_readsThing_76 (tgt := 83) rfl ?_ ?_
  · refine r_aload_n dX12_readsThing_83 rfl ?_
    refine c_VI (As := []) kvX12_224 rfl (by decide) (okX12_readsField u1) rfl (Nat.le_of_ble_eq_true rfl) rfl dX12_readsThing_84 (fun r2 u2 => ?_)
    exact sX12_readsThing_87 v1 (v1 + 2) r2 u2
  · refine r_iconst dX12_readsThing_79 (v := -1) rfl ?_
    refine r_goto dX12_readsThing_80 (tgt := 87) rfl ?_
    exact sX12_readsThing_87 v1 (v1 + 2) (-1) u1
def fX12_readsThing (u : US) : Option (Int32 × US) :=
  (if ((gI u 47 5) + (gI u 47 23)) = 8 then some (0, u) else oB (fX12_takesOf 100 u) fun r1 u1 => gd (inb (4 * (gI u 47 23)) 32) (nx (sA u1 58 (4 * (gI u 47 23)) r1) fun u2 => gd (inb (4 * (gI u 47 23)) 32) ((if 0 ≤ (gA u2 58 (4 * (gI u 47 23))) then oB (fX12_number 1 u2) fun r3 u3 => fX12_readsThing_60 (4 * (gI u 47 23)) ((4 * (gI u 47 23)) + 1) r3 u3 else fX12_readsThing_60 (4 * (gI u 47 23)) ((4 * (gI u 47 23)) + 1) (-1) u2))))
set_option maxRecDepth 20000 in
theorem sX12_readsThing (u : US) : Sim tI mX12_readsThing 7 (fX12_readsThing u) 0 [some (.ref 47), none] [] u := by
  unfold fX12_readsThing
  refine r_aload_n dX12_readsThing_0 rfl ?_
  refine r_get 47 5 flX12_140 rfl (v := .int (gI u 47 5)) rfl dX12_readsThing_1 ?_
  refine r_aload_n dX12_readsThing_4 rfl ?_
  refine r_get 47 23 flX12_218 rfl (v := .int (gI u 47 23)) rfl dX12_readsThing_5 ?_
  refine r_iadd dX12_readsThing_8 ?_
  refine r_bipush dX12_readsThing_9 (v := 8) rfl ?_
  refine r_icmp_ne dX12_readsThing_11 (tgt := 16) rfl ?_ ?_
  · refine r_iconst dX12_readsThing_16 (v := 4) rfl ?_
    refine r_aload_n dX12_readsThing_17 rfl ?_
    refine r_get 47 23 flX12_218 rfl (v := .int (gI u 47 23)) rfl dX12_readsThing_18 ?_
    refine r_imul dX12_readsThing_21 ?_
    refine r_istore_n dX12_readsThing_22 (Nat.le_of_ble_eq_true rfl) (ls2 := [some (.ref 47), some (.int (4 * (gI u 47 23)))]) rfl ?_
    refine r_aload_n dX12_readsThing_23 rfl ?_
    refine r_get 47 22 flX12_58 rfl (v := .ref 58) rfl dX12_readsThing_24 ?_
    refine r_iload_n dX12_readsThing_27 rfl ?_
    refine r_aload_n dX12_readsThing_28 rfl ?_
    refine r_ldcS 0 rfl rfl rfl dX12_readsThing_29 ?_
    refine c_VI (As := [.ref 100]) kvX12_203 rfl (by decide) (okX12_takesOf 100 u) rfl (Nat.le_of_ble_eq_true rfl) rfl dX12_readsThing_31 (fun r1 u1 => ?_)
    refine r_iast 58 rfl dX12_readsThing_34 (r_nx (fun u2 => ?_))
    refine r_aload_n dX12_readsThing_35 rfl ?_
    refine r_get 47 22 flX12_58 rfl (v := .ref 58) rfl dX12_readsThing_36 ?_
    refine r_iload_n dX12_readsThing_39 rfl ?_
    refine r_iconst dX12_readsThing_40 (v := 1) rfl ?_
    refine r_iadd dX12_readsThing_41 ?_
    refine r_aload_n dX12_readsThing_42 rfl ?_
    refine r_get 47 22 flX12_58 rfl (v := .ref 58) rfl dX12_readsThing_43 ?_
    refine r_iload_n dX12_readsThing_46 rfl ?_
    refine r_iald 58 rfl dX12_readsThing_47 ?_
    refine r_if_ge dX12_readsThing_48 (tgt := 55) rfl ?_ ?_
    · refine r_aload_n dX12_readsThing_55 rfl ?_
      refine r_iconst dX12_readsThing_56 (v := 1) rfl ?_
      refine c_VI (As := [.int 1]) kvX12_221 rfl (by decide) (okX12_number 1 u2) rfl (Nat.le_of_ble_eq_true rfl) rfl dX12_readsThing_57 (fun r3 u3 => ?_)
      exact sX12_readsThing_60 (4 * (gI u 47 23)) ((4 * (gI u 47 23)) + 1) r3 u3
    · refine r_iconst dX12_readsThing_51 (v := -1) rfl ?_
      refine r_goto dX12_readsThing_52 (tgt := 60) rfl ?_
      exact sX12_readsThing_60 (4 * (gI u 47 23)) ((4 * (gI u 47 23)) + 1) (-1) u2
  · refine r_iconst dX12_readsThing_14 (v := 0) rfl ?_
    exact r_zreturn0 rfl dX12_readsThing_15
theorem okX12_readsThing (u : US) : ∀ r, fX12_readsThing u = some r → MetC mX12_readsThing 7 [.ref 47] u (tI r) :=
  met_of (by decide +kernel) (Nat.le_of_ble_eq_true rfl) rfl (sX12_readsThing u)
def fX12_readsLine (v1 : Int32) (u : US) : Option (Int32 × US) :=
  (if v1 = 0 then oB (fX12_readsThing u) fun r3 u3 => gd (isB r3) (some (r3, u3)) else (if v1 = 1 then oB (fX12_readsPane u) fun r2 u2 => gd (isB r2) (some (r2, u2)) else oB (fX12_readsRoom u) fun r1 u1 => gd (isB r1) (some (r1, u1))))
set_option maxRecDepth 20000 in
theorem sX12_readsLine (v1 : Int32) (u : US) : Sim tI mX12_readsLine 9 (fX12_readsLine v1 u) 0 [some (.ref 47), some (.int v1)] [] u := by
  unfold fX12_readsLine
  refine r_iload_n dX12_readsLine_0 rfl ?_
  refine r_if_ne dX12_readsLine_1 (tgt := 11) rfl ?_ ?_
  · refine r_iload_n dX12_readsLine_11 rfl ?_
    refine r_iconst dX12_readsLine_12 (v := 1) rfl ?_
    refine r_icmp_ne dX12_readsLine_13 (tgt := 23) rfl ?_ ?_
    · refine r_aload_n dX12_readsLine_23 rfl ?_
      refine c_VI (As := []) kvX12_238 rfl (by decide) (okX12_readsRoom u) rfl (Nat.le_of_ble_eq_true rfl) rfl dX12_readsLine_24 (fun r1 u1 => ?_)
      exact r_zreturn rfl dX12_readsLine_27
    · refine r_aload_n dX12_readsLine_16 rfl ?_
      refine c_VI (As := []) kvX12_235 rfl (by decide) (okX12_readsPane u) rfl (Nat.le_of_ble_eq_true rfl) rfl dX12_readsLine_17 (fun r2 u2 => ?_)
      refine r_goto dX12_readsLine_20 (tgt := 27) rfl ?_
      exact r_zreturn rfl dX12_readsLine_27
  · refine r_aload_n dX12_readsLine_4 rfl ?_
    refine c_VI (As := []) kvX12_232 rfl (by decide) (okX12_readsThing u) rfl (Nat.le_of_ble_eq_true rfl) rfl dX12_readsLine_5 (fun r3 u3 => ?_)
    refine r_goto dX12_readsLine_8 (tgt := 27) rfl ?_
    exact r_zreturn rfl dX12_readsLine_27
theorem okX12_readsLine (v1 : Int32) (u : US) : ∀ r, fX12_readsLine v1 u = some r → MetC mX12_readsLine 9 [.ref 47, .int v1] u (tI r) :=
  met_of (by decide +kernel) (Nat.le_of_ble_eq_true rfl) rfl (sX12_readsLine v1 u)
def fX12_readsLines_25 (v1 : Int32) (v2 : Int32) : Nat → Int32 → Int32 → Int32 → US → Option (Int32 × US)
  | 0, _, _, _, _ => none
  | n + 1, v3, v4, v5, u => (if v5 = 0 then oB (fX12_faultOf v3 v2 v4 u) fun r1 u1 => some (r1, u1) else oB (fX12_readsLine v1 u) fun r2 u2 => (if r2 = 0 then fX12_readsLines_25 v1 v2 n v3 r2 0 u2 else oB (fX12_takesSign 59 u2) fun r3 u3 => (if r3 = 0 then fX12_readsLines_25 v1 v2 n v3 r2 0 u3 else fX12_readsLines_25 v1 v2 n v3 r2 1 u3)))
set_option maxRecDepth 20000 in
theorem sX12_readsLines_25 (v1 : Int32) (v2 : Int32) : ∀ (n : Nat) (v3 : Int32) (v4 : Int32) (v5 : Int32) (u : US), Sim tI mX12_readsLines 10 (fX12_readsLines_25 v1 v2 n v3 v4 v5 u) 25 [some (.ref 47), some (.int v1), some (.int v2), some (.int v3), some (.int v4), some (.int v5)] [] u := by
  intro n
  induction n with
  | zero =>
    intro v3 v4 v5 u
    rw [fX12_readsLines_25.eq_1]
    exact r_none
  | succ n ih =>
    intro v3 v4 v5 u
    rw [fX12_readsLines_25.eq_2]
    refine r_iload dX12_readsLines_25 rfl ?_
    refine r_if_eq dX12_readsLines_27 (tgt := 61) rfl ?_ ?_
    · refine r_aload_n dX12_readsLines_61 rfl ?_
      refine r_iload_n dX12_readsLines_62 rfl ?_
      refine r_iload_n dX12_readsLines_63 rfl ?_
      refine r_iload dX12_readsLines_64 rfl ?_
      refine c_VI (As := [.int v3, .int v2, .int v4]) kvX12_248 rfl (by decide) (okX12_faultOf v3 v2 v4 u) rfl (Nat.le_of_ble_eq_true rfl) rfl dX12_readsLines_66 (fun r1 u1 => ?_)
      exact r_ireturn rfl dX12_readsLines_69
    · refine r_aload_n dX12_readsLines_30 rfl ?_
      refine r_iload_n dX12_readsLines_31 rfl ?_
      refine c_VI (As := [.int v1]) kvX12_241 rfl (by decide) (okX12_readsLine v1 u) rfl (Nat.le_of_ble_eq_true rfl) rfl dX12_readsLines_32 (fun r2 u2 => ?_)
      refine r_istore dX12_readsLines_35 (Nat.le_of_ble_eq_true rfl) (ls2 := [some (.ref 47), some (.int v1), some (.int v2), some (.int v3), some (.int r2), some (.int v5)]) rfl ?_
      refine r_iload dX12_readsLines_37 rfl ?_
      refine r_if_eq dX12_readsLines_39 (tgt := 55) rfl ?_ ?_
      · refine r_iconst dX12_readsLines_55 (v := 0) rfl ?_
        refine r_istore dX12_readsLines_56 (Nat.le_of_ble_eq_true rfl) (ls2 := [some (.ref 47), some (.int v1), some (.int v2), some (.int v3), some (.int r2), some (.int 0)]) rfl ?_
        refine r_goto dX12_readsLines_58 (tgt := 25) rfl ?_
        exact ih v3 r2 0 u2
      · refine r_aload_n dX12_readsLines_42 rfl ?_
        refine r_bipush dX12_readsLines_43 (v := 59) rfl ?_
        refine c_VI (As := [.int 59]) kvX12_245 rfl (by decide) (okX12_takesSign 59 u2) rfl (Nat.le_of_ble_eq_true rfl) rfl dX12_readsLines_45 (fun r3 u3 => ?_)
        refine r_if_eq dX12_readsLines_48 (tgt := 55) rfl ?_ ?_
        · refine r_iconst dX12_readsLines_55 (v := 0) rfl ?_
          refine r_istore dX12_readsLines_56 (Nat.le_of_ble_eq_true rfl) (ls2 := [some (.ref 47), some (.int v1), some (.int v2), some (.int v3), some (.int r2), some (.int 0)]) rfl ?_
          refine r_goto dX12_readsLines_58 (tgt := 25) rfl ?_
          exact ih v3 r2 0 u3
        · refine r_iconst dX12_readsLines_51 (v := 1) rfl ?_
          refine r_goto dX12_readsLines_52 (tgt := 56) rfl ?_
          refine r_istore dX12_readsLines_56 (Nat.le_of_ble_eq_true rfl) (ls2 := [some (.ref 47), some (.int v1), some (.int v2), some (.int v3), some (.int r2), some (.int 1)]) rfl ?_
          refine r_goto dX12_readsLines_58 (tgt := 25) rfl ?_
          exact ih v3 r2 1 u3
def fX12_readsLines (v1 : Int32) (v2 : Int32) (u : US) : Option (Int32 × US) :=
  oB (fX12_begins v2 u) fun r1 u1 => nx (sI u1 47 23 0) fun u2 => (if r1 ≤ 0 then fX12_readsLines_25 v1 v2 FU r1 1 0 u2 else fX12_readsLines_25 v1 v2 FU r1 1 1 u2)
set_option maxRecDepth 20000 in
theorem sX12_readsLines (v1 : Int32) (v2 : Int32) (u : US) : Sim tI mX12_readsLines 10 (fX12_readsLines v1 v2 u) 0 [some (.ref 47), some (.int v1), some (.int v2), none, none, none] [] u := by
  unfold fX12_readsLines
  refine r_aload_n dX12_readsLines_0 rfl ?_
  refine r_iload_n dX12_readsLines_1 rfl ?_
  refine c_VI (As := [.int v2]) kvX12_206 rfl (by decide) (okX12_begins v2 u) rfl (Nat.le_of_ble_eq_true rfl) rfl dX12_readsLines_2 (fun r1 u1 => ?_)
  refine r_istore_n dX12_readsLines_5 (Nat.le_of_ble_eq_true rfl) (ls2 := [some (.ref 47), some (.int v1), some (.int v2), some (.int r1), none, none]) rfl ?_
  refine r_aload_n dX12_readsLines_6 rfl ?_
  refine r_iconst dX12_readsLines_7 (v := 0) rfl ?_
  refine r_put 47 23 fpX12_218 rfl rfl dX12_readsLines_8 (r_nx (fun u2 => ?_))
  refine r_iconst dX12_readsLines_11 (v := 1) rfl ?_
  refine r_istore dX12_readsLines_12 (Nat.le_of_ble_eq_true rfl) (ls2 := [some (.ref 47), some (.int v1), some (.int v2), some (.int r1), some (.int 1), none]) rfl ?_
  refine r_iload_n dX12_readsLines_14 rfl ?_
  refine r_if_le dX12_readsLines_15 (tgt := 22) rfl ?_ ?_
  · refine r_iconst dX12_readsLines_22 (v := 0) rfl ?_
    refine r_istore dX12_readsLines_23 (Nat.le_of_ble_eq_true rfl) (ls2 := [some (.ref 47), some (.int v1), some (.int v2), some (.int r1), some (.int 1), some (.int 0)]) rfl ?_
    exact sX12_readsLines_25 v1 v2 FU r1 1 0 u2
  · refine r_iconst dX12_readsLines_18 (v := 1) rfl ?_
    refine r_goto dX12_readsLines_19 (tgt := 23) rfl ?_
    refine r_istore dX12_readsLines_23 (Nat.le_of_ble_eq_true rfl) (ls2 := [some (.ref 47), some (.int v1), some (.int v2), some (.int r1), some (.int 1), some (.int 1)]) rfl ?_
    exact sX12_readsLines_25 v1 v2 FU r1 1 1 u2
theorem okX12_readsLines (v1 : Int32) (v2 : Int32) (u : US) : ∀ r, fX12_readsLines v1 v2 u = some r → MetC mX12_readsLines 10 [.ref 47, .int v1, .int v2] u (tI r) :=
  met_of (by decide +kernel) (Nat.le_of_ble_eq_true rfl) rfl (sX12_readsLines v1 v2 u)
def fX12_panes_21 : Nat → Int32 → US → Option (Int32 × US)
  | 0, _, _ => none
  | n + 1, v2, u => (if (gI u 47 23) ≤ v2 then oB (fX12_isNew u) fun r1 u1 => some (r1, u1) else gd (inb (2 * v2) 32) (gd (inb (gI u 47 6) 8) (nx (sA u 51 (gI u 47 6) (gA u 58 (2 * v2))) fun u2 => gd (inb ((2 * v2) + 1) 32) (gd (inb (gI u2 47 6) 8) (nx (sA u2 52 (gI u2 47 6) (gA u2 58 ((2 * v2) + 1))) fun u3 => gd (inb (16 + (gI u3 47 6)) 26) (nx (sA u3 55 (16 + (gI u3 47 6)) (-1)) fun u4 => gd (inb 24 26) (gd (inb 24 26) (nx (sA u4 55 24 ((gA u4 55 24) &&& ((1 <<< ((gI u4 47 6) &&& 31)) ^^^ (-1)))) fun u5 => nx (sI u5 47 6 ((gI u5 47 6) + 1)) fun u6 => fX12_panes_21 n (v2 + 1) u6))))))))
set_option maxRecDepth 20000 in
theorem sX12_panes_21 : ∀ (n : Nat) (v2 : Int32) (u : US), Sim tI mX12_panes 11 (fX12_panes_21 n v2 u) 21 [some (.ref 47), none, some (.int v2)] [] u := by
  intro n
  induction n with
  | zero =>
    intro v2 u
    rw [fX12_panes_21.eq_1]
    exact r_none
  | succ n ih =>
    intro v2 u
    rw [fX12_panes_21.eq_2]
    refine r_iload_n dX12_panes_21 rfl ?_
    refine r_aload_n dX12_panes_22 rfl ?_
    refine r_get 47 23 flX12_218 rfl (v := .int (gI u 47 23)) rfl dX12_panes_23 ?_
    refine r_icmp_ge dX12_panes_26 (tgt := 112) rfl ?_ ?_
    · refine r_aload_n dX12_panes_112 rfl ?_
      refine c_VI (As := []) kvX12_258 rfl (by decide) (okX12_isNew u) rfl (Nat.le_of_ble_eq_true rfl) rfl dX12_panes_113 (fun r1 u1 => ?_)
      exact r_ireturn rfl dX12_panes_116
    · refine r_aload_n dX12_panes_29 rfl ?_
      refine r_get 47 11 flX12_37 rfl (v := .ref 51) rfl dX12_panes_30 ?_
      refine r_aload_n dX12_panes_33 rfl ?_
      refine r_get 47 6 flX12_147 rfl (v := .int (gI u 47 6)) rfl dX12_panes_34 ?_
      refine r_aload_n dX12_panes_37 rfl ?_
      refine r_get 47 22 flX12_58 rfl (v := .ref 58) rfl dX12_panes_38 ?_
      refine r_iconst dX12_panes_41 (v := 2) rfl ?_
      refine r_iload_n dX12_panes_42 rfl ?_
      refine r_imul dX12_panes_43 ?_
      refine r_iald 58 rfl dX12_panes_44 ?_
      refine r_iast 51 rfl dX12_panes_45 (r_nx (fun u2 => ?_))
      refine r_aload_n dX12_panes_46 rfl ?_
      refine r_get 47 12 flX12_40 rfl (v := .ref 52) rfl dX12_panes_47 ?_
      refine r_aload_n dX12_panes_50 rfl ?_
      refine r_get 47 6 flX12_147 rfl (v := .int (gI u2 47 6)) rfl dX12_panes_51 ?_
      refine r_aload_n dX12_panes_54 rfl ?_
      refine r_get 47 22 flX12_58 rfl (v := .ref 58) rfl dX12_panes_55 ?_
      refine r_iconst dX12_panes_58 (v := 2) rfl ?_
      refine r_iload_n dX12_panes_59 rfl ?_
      refine r_imul dX12_panes_60 ?_
      refine r_iconst dX12_panes_61 (v := 1) rfl ?_
      refine r_iadd dX12_panes_62 ?_
      refine r_iald 58 rfl dX12_panes_63 ?_
      refine r_iast 52 rfl dX12_panes_64 (r_nx (fun u3 => ?_))
      refine r_aload_n dX12_panes_65 rfl ?_
      refine r_get 47 15 flX12_49 rfl (v := .ref 55) rfl dX12_panes_66 ?_
      refine r_bipush dX12_panes_69 (v := 16) rfl ?_
      refine r_aload_n dX12_panes_71 rfl ?_
      refine r_get 47 6 flX12_147 rfl (v := .int (gI u3 47 6)) rfl dX12_panes_72 ?_
      refine r_iadd dX12_panes_75 ?_
      refine r_iconst dX12_panes_76 (v := -1) rfl ?_
      refine r_iast 55 rfl dX12_panes_77 (r_nx (fun u4 => ?_))
      refine r_aload_n dX12_panes_78 rfl ?_
      refine r_get 47 15 flX12_49 rfl (v := .ref 55) rfl dX12_panes_79 ?_
      refine r_bipush dX12_panes_82 (v := 24) rfl ?_
      refine r_dup2 dX12_panes_84 rfl rfl ?_
      refine r_iald 55 rfl dX12_panes_85 ?_
      refine r_iconst dX12_panes_86 (v := 1) rfl ?_
      refine r_aload_n dX12_panes_87 rfl ?_
      refine r_get 47 6 flX12_147 rfl (v := .int (gI u4 47 6)) rfl dX12_panes_88 ?_
      refine r_ishl dX12_panes_91 ?_
      refine r_iconst dX12_panes_92 (v := -1) rfl ?_
      refine r_ixor dX12_panes_93 ?_
      refine r_iand dX12_panes_94 ?_
      refine r_iast 55 rfl dX12_panes_95 (r_nx (fun u5 => ?_))
      refine r_aload_n dX12_panes_96 rfl ?_
      refine r_dup dX12_panes_97 rfl ?_
      refine r_get 47 6 flX12_147 rfl (v := .int (gI u5 47 6)) rfl dX12_panes_98 ?_
      refine r_iconst dX12_panes_101 (v := 1) rfl ?_
      refine r_iadd dX12_panes_102 ?_
      refine r_put 47 6 fpX12_147 rfl rfl dX12_panes_103 (r_nx (fun u6 => ?_))
      refine r_iinc dX12_panes_106 (Nat.le_of_ble_eq_true rfl) rfl (v := v2 + 1) rfl (ls2 := [some (.ref 47), none, some (.int (v2 + 1))]) rfl ?_
      refine r_goto dX12_panes_109 (tgt := 21) rfl ?_
      exact ih (v2 + 1) u6
def fX12_panes (u : US) : Option (Int32 × US) :=
  nx (sI u 47 0 0) fun u1 => oB (fX12_readsLines 1 79 u1) fun r2 u2 => (if 0 ≤ r2 then fX12_panes_21 FU 0 u2 else some (r2, u2))
set_option maxRecDepth 20000 in
theorem sX12_panes (u : US) : Sim tI mX12_panes 11 (fX12_panes u) 0 [some (.ref 47), none, none] [] u := by
  unfold fX12_panes
  refine r_aload_n dX12_panes_0 rfl ?_
  refine r_iconst dX12_panes_1 (v := 0) rfl ?_
  refine r_put 47 0 fpX12_3 rfl rfl dX12_panes_2 (r_nx (fun u1 => ?_))
  refine r_aload_n dX12_panes_5 rfl ?_
  refine r_iconst dX12_panes_6 (v := 1) rfl ?_
  refine r_bipush dX12_panes_7 (v := 79) rfl ?_
  refine c_VI (As := [.int 1, .int 79]) kvX12_255 rfl (by decide) (okX12_readsLines 1 79 u1) rfl (Nat.le_of_ble_eq_true rfl) rfl dX12_panes_9 (fun r2 u2 => ?_)
  refine r_istore_n dX12_panes_12 (Nat.le_of_ble_eq_true rfl) (ls2 := [some (.ref 47), some (.int r2), none]) rfl ?_
  refine r_iload_n dX12_panes_13 rfl ?_
  refine r_if_ge dX12_panes_14 (tgt := 19) rfl ?_ ?_
  · refine r_iconst dX12_panes_19 (v := 0) rfl ?_
    refine r_istore_n dX12_panes_20 (Nat.le_of_ble_eq_true rfl) (ls2 := [some (.ref 47), some (.int r2), some (.int 0)]) rfl ?_
    refine r_mk [true, false, true] (ls2 := [some (.ref 47), none, some (.int 0)]) rfl ?_
    exact sX12_panes_21 FU 0 u2
  · refine r_iload_n dX12_panes_17 rfl ?_
    exact r_ireturn rfl dX12_panes_18
theorem okX12_panes (u : US) : ∀ r, fX12_panes u = some r → MetC mX12_panes 11 [.ref 47] u (tI r) :=
  met_of (by decide +kernel) (Nat.le_of_ble_eq_true rfl) rfl (sX12_panes u)
def fX12_rests_37 (v1 : Int32) (k28 : Int32 → Int32 → US → Option (Int32 × US)) : Nat → Int32 → Int32 → Int32 → US → Option (Int32 × US)
  | 0, _, _, _, _ => none
  | n + 1, v2, v3, v4, u => (if (9 : Int32) < v4 then k28 v2 (v3 + 1) u else oB (fX12_isRest v3 v4 v1 u) fun r1 u1 => (if r1 = 0 then fX12_rests_37 v1 k28 n v2 v3 (v4 + 1) u1 else (if v2 = 0 then oV (fX12_enters ((v3 : Int32).toInt64) u1) fun u2 => oV (fX12_enters ((v4 : Int32).toInt64) u2) fun u3 => fX12_rests_37 v1 k28 n (v2 + 1) v3 (v4 + 1) u3 else fX12_rests_37 v1 k28 n (v2 + 1) v3 (v4 + 1) u1)))
set_option maxRecDepth 20000 in
theorem sX12_rests_37 (v1 : Int32) (k28 : Int32 → Int32 → US → Option (Int32 × US)) (hk28 : ∀ (v2 : Int32) (v3 : Int32) (u : US), Sim tI mX12_rests 1 (k28 v2 v3 u) 28 [some (.ref 47), some (.int v1), some (.int v2), some (.int v3), none] [] u) : ∀ (n : Nat) (v2 : Int32) (v3 : Int32) (v4 : Int32) (u : US), Sim tI mX12_rests 1 (fX12_rests_37 v1 k28 n v2 v3 v4 u) 37 [some (.ref 47), some (.int v1), some (.int v2), some (.int v3), some (.int v4)] [] u := by
  intro n
  induction n with
  | zero =>
    intro v2 v3 v4 u
    rw [fX12_rests_37.eq_1]
    exact r_none
  | succ n ih =>
    intro v2 v3 v4 u
    rw [fX12_rests_37.eq_2]
    refine r_iload dX12_rests_37 rfl ?_
    refine r_bipush dX12_rests_39 (v := 9) rfl ?_
    refine r_icmp_gt dX12_rests_41 (tgt := 80) rfl ?_ ?_
    · refine r_iinc dX12_rests_80 (Nat.le_of_ble_eq_true rfl) rfl (v := v3 + 1) rfl (ls2 := [some (.ref 47), some (.int v1), some (.int v2), some (.int (v3 + 1)), some (.int v4)]) rfl ?_
      refine r_goto dX12_rests_83 (tgt := 28) rfl ?_
      refine r_mk [true, true, true, true, false] (ls2 := [some (.ref 47), some (.int v1), some (.int v2), some (.int (v3 + 1)), none]) rfl ?_
      exact hk28 v2 (v3 + 1) u
    · refine r_iload_n dX12_rests_44 rfl ?_
      refine r_iload dX12_rests_45 rfl ?_
      refine r_iload_n dX12_rests_47 rfl ?_
      refine c_SI (As := [.int v3, .int v4, .int v1]) ksX12_448 (by decide) (okX12_isRest v3 v4 v1 u) rfl (Nat.le_of_ble_eq_true rfl) rfl dX12_rests_48 (fun r1 u1 => ?_)
      refine r_if_eq dX12_rests_51 (tgt := 74) rfl ?_ ?_
      · refine r_iinc dX12_rests_74 (Nat.le_of_ble_eq_true rfl) rfl (v := v4 + 1) rfl (ls2 := [some (.ref 47), some (.int v1), some (.int v2), some (.int v3), some (.int (v4 + 1))]) rfl ?_
        refine r_goto dX12_rests_77 (tgt := 37) rfl ?_
        exact ih v2 v3 (v4 + 1) u1
      · refine r_iload_n dX12_rests_54 rfl ?_
        refine r_if_ne dX12_rests_55 (tgt := 71) rfl ?_ ?_
        · refine r_iinc dX12_rests_71 (Nat.le_of_ble_eq_true rfl) rfl (v := v2 + 1) rfl (ls2 := [some (.ref 47), some (.int v1), some (.int (v2 + 1)), some (.int v3), some (.int v4)]) rfl ?_
          refine r_iinc dX12_rests_74 (Nat.le_of_ble_eq_true rfl) rfl (v := v4 + 1) rfl (ls2 := [some (.ref 47), some (.int v1), some (.int (v2 + 1)), some (.int v3), some (.int (v4 + 1))]) rfl ?_
          refine r_goto dX12_rests_77 (tgt := 37) rfl ?_
          exact ih (v2 + 1) v3 (v4 + 1) u1
        · refine r_aload_n dX12_rests_58 rfl ?_
          refine r_iload_n dX12_rests_59 rfl ?_
          refine r_i2l dX12_rests_60 ?_
          refine c_VV (As := [.long ((v3 : Int32).toInt64)]) kvX12_387 rfl (by decide) (okX12_enters ((v3 : Int32).toInt64) u1) rfl (Nat.le_of_ble_eq_true rfl) rfl dX12_rests_61 (fun u2 => ?_)
          refine r_aload_n dX12_rests_64 rfl ?_
          refine r_iload dX12_rests_65 rfl ?_
          refine r_i2l dX12_rests_67 ?_
          refine c_VV (As := [.long ((v4 : Int32).toInt64)]) kvX12_387 rfl (by decide) (okX12_enters ((v4 : Int32).toInt64) u2) rfl (Nat.le_of_ble_eq_true rfl) rfl dX12_rests_68 (fun u3 => ?_)
          refine r_iinc dX12_rests_71 (Nat.le_of_ble_eq_true rfl) rfl (v := v2 + 1) rfl (ls2 := [some (.ref 47), some (.int v1), some (.int (v2 + 1)), some (.int v3), some (.int v4)]) rfl ?_
          refine r_iinc dX12_rests_74 (Nat.le_of_ble_eq_true rfl) rfl (v := v4 + 1) rfl (ls2 := [some (.ref 47), some (.int v1), some (.int (v2 + 1)), some (.int v3), some (.int (v4 + 1))]) rfl ?_
          refine r_goto dX12_rests_77 (tgt := 37) rfl ?_
          exact ih (v2 + 1) v3 (v4 + 1) u3
def fX12_rests_28 (v1 : Int32) : Nat → Int32 → Int32 → US → Option (Int32 × US)
  | 0, _, _, _ => none
  | n + 1, v2, v3, u => (if (9 : Int32) < v3 then some (v2, u) else fX12_rests_37 v1 (fX12_rests_28 v1 n) FU v2 v3 0 u)
set_option maxRecDepth 20000 in
theorem sX12_rests_28 (v1 : Int32) : ∀ (n : Nat) (v2 : Int32) (v3 : Int32) (u : US), Sim tI mX12_rests 1 (fX12_rests_28 v1 n v2 v3 u) 28 [some (.ref 47), some (.int v1), some (.int v2), some (.int v3), none] [] u := by
  intro n
  induction n with
  | zero =>
    intro v2 v3 u
    rw [fX12_rests_28.eq_1]
    exact r_none
  | succ n ih =>
    intro v2 v3 u
    rw [fX12_rests_28.eq_2]
    refine r_iload_n dX12_rests_28 rfl ?_
    refine r_bipush dX12_rests_29 (v := 9) rfl ?_
    refine r_icmp_gt dX12_rests_31 (tgt := 86) rfl ?_ ?_
    · refine r_iload_n dX12_rests_86 rfl ?_
      exact r_ireturn rfl dX12_rests_87
    · refine r_iconst dX12_rests_34 (v := 0) rfl ?_
      refine r_istore dX12_rests_35 (Nat.le_of_ble_eq_true rfl) (ls2 := [some (.ref 47), some (.int v1), some (.int v2), some (.int v3), some (.int 0)]) rfl ?_
      exact sX12_rests_37 v1 (fX12_rests_28 v1 n) ih FU v2 v3 0 u
def fX12_rests (v1 : Int32) (u : US) : Option (Int32 × US) :=
  nx (sI u 47 0 0) fun u1 => oB (fX12_in ((v1 : Int32).toInt64) 0 9 u1) fun r2 u2 => (if r2 = 0 then some ((-1), u2) else nx (sI u2 47 1 0) fun u3 => fX12_rests_28 v1 FU 0 0 u3)
set_option maxRecDepth 20000 in
theorem sX12_rests (v1 : Int32) (u : US) : Sim tI mX12_rests 1 (fX12_rests v1 u) 0 [some (.ref 47), some (.int v1), none, none, none] [] u := by
  unfold fX12_rests
  refine r_aload_n dX12_rests_0 rfl ?_
  refine r_iconst dX12_rests_1 (v := 0) rfl ?_
  refine r_put 47 0 fpX12_3 rfl rfl dX12_rests_2 (r_nx (fun u1 => ?_))
  refine r_iload_n dX12_rests_5 rfl ?_
  refine r_i2l dX12_rests_6 ?_
  refine r_lconst dX12_rests_7 (v := 0) rfl ?_
  refine r_ldc2 dX12_rests_8 kJX12_416 ?_
  refine c_SI (As := [.long ((v1 : Int32).toInt64), .long 0, .long 9]) ksX12_143 (by decide) (okX12_in ((v1 : Int32).toInt64) 0 9 u1) rfl (Nat.le_of_ble_eq_true rfl) rfl dX12_rests_11 (fun r2 u2 => ?_)
  refine r_if_ne dX12_rests_14 (tgt := 19) rfl ?_ ?_
  · refine r_iconst dX12_rests_19 (v := 0) rfl ?_
    refine r_istore_n dX12_rests_20 (Nat.le_of_ble_eq_true rfl) (ls2 := [some (.ref 47), some (.int v1), some (.int 0), none, none]) rfl ?_
    refine r_aload_n dX12_rests_21 rfl ?_
    refine r_iconst dX12_rests_22 (v := 0) rfl ?_
    refine r_put 47 1 fpX12_15 rfl rfl dX12_rests_23 (r_nx (fun u3 => ?_))
    refine r_iconst dX12_rests_26 (v := 0) rfl ?_
    refine r_istore_n dX12_rests_27 (Nat.le_of_ble_eq_true rfl) (ls2 := [some (.ref 47), some (.int v1), some (.int 0), some (.int 0), none]) rfl ?_
    exact sX12_rests_28 v1 FU 0 0 u3
  · refine r_iconst dX12_rests_17 (v := -1) rfl ?_
    exact r_ireturn rfl dX12_rests_18
theorem okX12_rests (v1 : Int32) (u : US) : ∀ r, fX12_rests v1 u = some r → MetC mX12_rests 1 [.ref 47, .int v1] u (tI r) :=
  met_of (by decide +kernel) (Nat.le_of_ble_eq_true rfl) rfl (sX12_rests v1 u)
def fX12_room_25 (v1 : Int32) (v2 : Int32) (u : US) : Option (Int32 × US) :=
  oB (fX12_refuse u) fun r1 u1 => some (r1, u1)
set_option maxRecDepth 20000 in
theorem sX12_room_25 (v1 : Int32) (v2 : Int32) (u : US) : Sim tI mX12_room 10 (fX12_room_25 v1 v2 u) 25 [some (.ref 47), some (.int v1), some (.int v2)] [] u := by
  unfold fX12_room_25
  refine r_aload_n dX12_room_25 rfl ?_
  refine c_VI (As := []) kvX12_337 rfl (by decide) (okX12_refuse u) rfl (Nat.le_of_ble_eq_true rfl) rfl dX12_room_26 (fun r1 u1 => ?_)
  exact r_ireturn rfl dX12_room_29
def fX12_room (v1 : Int32) (v2 : Int32) (u : US) : Option (Int32 × US) :=
  nx (sI u 47 0 0) fun u1 => oB (fX12_isRoom v1 u1) fun r2 u2 => (if r2 = 0 then fX12_room_25 v1 v2 u2 else oB (fX12_in ((v2 : Int32).toInt64) 0 4 u2) fun r3 u3 => (if r3 = 0 then fX12_room_25 v1 v2 u3 else (if v2 = 0 then gd (inb v1 4) (some (gA u3 53 v1, u3)) else (if v2 = 1 then gd (inb v1 4) (some (gA u3 54 v1, u3)) else (if v2 = 2 then oB (fX12_panesOf 55 v1 u3) fun r4 u4 => some (r4, u4) else (if v2 = 3 then oB (fX12_seen 55 v1 u3) fun r5 u5 => some (r5, u5) else oB (fX12_near 55 v1 u3) fun r6 u6 => some (r6, u6)))))))
set_option maxRecDepth 20000 in
theorem sX12_room (v1 : Int32) (v2 : Int32) (u : US) : Sim tI mX12_room 10 (fX12_room v1 v2 u) 0 [some (.ref 47), some (.int v1), some (.int v2)] [] u := by
  unfold fX12_room
  refine r_aload_n dX12_room_0 rfl ?_
  refine r_iconst dX12_room_1 (v := 0) rfl ?_
  refine r_put 47 0 fpX12_3 rfl rfl dX12_room_2 (r_nx (fun u1 => ?_))
  refine r_aload_n dX12_room_5 rfl ?_
  refine r_iload_n dX12_room_6 rfl ?_
  refine c_VI (As := [.int v1]) kvX12_346 rfl (by decide) (okX12_isRoom v1 u1) rfl (Nat.le_of_ble_eq_true rfl) rfl dX12_room_7 (fun r2 u2 => ?_)
  refine r_if_eq dX12_room_10 (tgt := 25) rfl ?_ ?_
  · exact sX12_room_25 v1 v2 u2
  · refine r_iload_n dX12_room_13 rfl ?_
    refine r_i2l dX12_room_14 ?_
    refine r_lconst dX12_room_15 (v := 0) rfl ?_
    refine r_ldc2 dX12_room_16 kJX12_335 ?_
    refine c_SI (As := [.long ((v2 : Int32).toInt64), .long 0, .long 4]) ksX12_143 (by decide) (okX12_in ((v2 : Int32).toInt64) 0 4 u2) rfl (Nat.le_of_ble_eq_true rfl) rfl dX12_room_19 (fun r3 u3 => ?_)
    refine r_if_ne dX12_room_22 (tgt := 30) rfl ?_ ?_
    · refine r_iload_n dX12_room_30 rfl ?_
      refine r_ite (fun hc0 => ?_) (fun hc0 => ?_)
      · refine r_tabIn dX12_room_31 (off := 29) (by rw [hc0]; decide) (by rw [hc0]; decide) (by rw [hc0]; rfl) (tgt := 60) rfl ?_
        refine r_aload_n dX12_room_60 rfl ?_
        refine r_get 47 13 flX12_43 rfl (v := .ref 53) rfl dX12_room_61 ?_
        refine r_iload_n dX12_room_64 rfl ?_
        refine r_iald 53 rfl dX12_room_65 ?_
        exact r_ireturn rfl dX12_room_66
      refine r_ite (fun hc1 => ?_) (fun hc1 => ?_)
      · refine r_tabIn dX12_room_31 (off := 36) (by rw [hc1]; decide) (by rw [hc1]; decide) (by rw [hc1]; rfl) (tgt := 67) rfl ?_
        refine r_aload_n dX12_room_67 rfl ?_
        refine r_get 47 14 flX12_46 rfl (v := .ref 54) rfl dX12_room_68 ?_
        refine r_iload_n dX12_room_71 rfl ?_
        refine r_iald 54 rfl dX12_room_72 ?_
        exact r_ireturn rfl dX12_room_73
      refine r_ite (fun hc2 => ?_) (fun hc2 => ?_)
      · refine r_tabIn dX12_room_31 (off := 43) (by rw [hc2]; decide) (by rw [hc2]; decide) (by rw [hc2]; rfl) (tgt := 74) rfl ?_
        refine r_aload_n dX12_room_74 rfl ?_
        refine r_aload_n dX12_room_75 rfl ?_
        refine r_get 47 15 flX12_49 rfl (v := .ref 55) rfl dX12_room_76 ?_
        refine r_iload_n dX12_room_79 rfl ?_
        refine c_VI (As := [.ref 55, .int v1]) kvX12_325 rfl (by decide) (okX12_panesOf 55 v1 u3) rfl (Nat.le_of_ble_eq_true rfl) rfl dX12_room_80 (fun r4 u4 => ?_)
        exact r_ireturn rfl dX12_room_83
      refine r_ite (fun hc3 => ?_) (fun hc3 => ?_)
      · refine r_tabIn dX12_room_31 (off := 53) (by rw [hc3]; decide) (by rw [hc3]; decide) (by rw [hc3]; rfl) (tgt := 84) rfl ?_
        refine r_aload_n dX12_room_84 rfl ?_
        refine r_aload_n dX12_room_85 rfl ?_
        refine r_get 47 15 flX12_49 rfl (v := .ref 55) rfl dX12_room_86 ?_
        refine r_iload_n dX12_room_89 rfl ?_
        refine c_VI (As := [.ref 55, .int v1]) kvX12_340 rfl (by decide) (okX12_seen 55 v1 u3) rfl (Nat.le_of_ble_eq_true rfl) rfl dX12_room_90 (fun r5 u5 => ?_)
        exact r_ireturn rfl dX12_room_93
      have hn0 := ne_int hc0
      have hn1 := ne_int hc1
      have hn2 := ne_int hc2
      have hn3 := ne_int hc3
      rw [show (0 : Int32).toInt = 0 from rfl] at hn0
      rw [show (1 : Int32).toInt = 1 from rfl] at hn1
      rw [show (2 : Int32).toInt = 2 from rfl] at hn2
      rw [show (3 : Int32).toInt = 3 from rfl] at hn3
      refine r_tabOut dX12_room_31 (by omega) (tgt := 94) rfl ?_
      refine r_aload_n dX12_room_94 rfl ?_
      refine r_aload_n dX12_room_95 rfl ?_
      refine r_get 47 15 flX12_49 rfl (v := .ref 55) rfl dX12_room_96 ?_
      refine r_iload_n dX12_room_99 rfl ?_
      refine c_VI (As := [.ref 55, .int v1]) kvX12_318 rfl (by decide) (okX12_near 55 v1 u3) rfl (Nat.le_of_ble_eq_true rfl) rfl dX12_room_100 (fun r6 u6 => ?_)
      exact r_ireturn rfl dX12_room_103
    · exact sX12_room_25 v1 v2 u3
theorem okX12_room (v1 : Int32) (v2 : Int32) (u : US) : ∀ r, fX12_room v1 v2 u = some r → MetC mX12_room 10 [.ref 47, .int v1, .int v2] u (tI r) :=
  met_of (by decide +kernel) (Nat.le_of_ble_eq_true rfl) rfl (sX12_room v1 v2 u)
