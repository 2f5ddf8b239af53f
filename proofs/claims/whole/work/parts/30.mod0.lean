def fX12_enters (v1 : Int64) (u : US) : Option (US) :=
  gd (inb (gI u 47 1) 36) (nx (sJ u 48 (gI u 47 1) v1) fun u1 => nx (sI u1 47 1 ((gI u1 47 1) + 1)) fun u2 => some u2)
set_option maxRecDepth 20000 in
theorem sX12_enters (v1 : Int64) (u : US) : Sim tV mX12_enters 0 (fX12_enters v1 u) 0 [some (.ref 47), some (.long v1), none] [] u := by
  unfold fX12_enters
  refine r_aload_n dX12_enters_0 rfl ?_
  refine r_get 47 2 flX12_11 rfl (v := .ref 48) rfl dX12_enters_1 ?_
  refine r_aload_n dX12_enters_4 rfl ?_
  refine r_get 47 1 flX12_15 rfl (v := .int (gI u 47 1)) rfl dX12_enters_5 ?_
  refine r_lload_n dX12_enters_8 rfl ?_
  refine r_last 48 rfl dX12_enters_9 (r_nx (fun u1 => ?_))
  refine r_aload_n dX12_enters_10 rfl ?_
  refine r_dup dX12_enters_11 rfl ?_
  refine r_get 47 1 flX12_15 rfl (v := .int (gI u1 47 1)) rfl dX12_enters_12 ?_
  refine r_iconst dX12_enters_15 (v := 1) rfl ?_
  refine r_iadd dX12_enters_16 ?_
  refine r_put 47 1 fpX12_15 rfl rfl dX12_enters_17 (r_nx (fun u2 => ?_))
  exact r_return rfl dX12_enters_20
theorem okX12_enters (v1 : Int64) (u : US) : ∀ r, fX12_enters v1 u = some r → MetC mX12_enters 0 [.ref 47, .long v1] u (tV r) :=
  met_of (by decide +kernel) (Nat.le_of_ble_eq_true rfl) rfl (sX12_enters v1 u)
def fX12_flag (v0 : Int32) (u : US) : Option (Int32 × US) :=
  (if v0 = 0 then some (0, u) else some (1, u))
set_option maxRecDepth 20000 in
theorem sX12_flag (v0 : Int32) (u : US) : Sim tI mX12_flag 0 (fX12_flag v0 u) 0 [some (.int v0)] [] u := by
  unfold fX12_flag
  refine r_iload_n dX12_flag_0 rfl ?_
  refine r_if_eq dX12_flag_1 (tgt := 8) rfl ?_ ?_
  · refine r_iconst dX12_flag_8 (v := 0) rfl ?_
    exact r_ireturn rfl dX12_flag_9
  · refine r_iconst dX12_flag_4 (v := 1) rfl ?_
    refine r_goto dX12_flag_5 (tgt := 9) rfl ?_
    exact r_ireturn rfl dX12_flag_9
theorem okX12_flag (v0 : Int32) (u : US) : ∀ r, fX12_flag v0 u = some r → MetC mX12_flag 0 [.int v0] u (tI r) :=
  met_of (by decide +kernel) (Nat.le_of_ble_eq_true rfl) rfl (sX12_flag v0 u)
def fX12_in (v0 : Int64) (v2 : Int64) (v4 : Int64) (u : US) : Option (Int32 × US) :=
  (if (lg_cmp v0 v2) < 0 then some (0, u) else (if 0 < (lg_cmp v0 v4) then some (0, u) else some (1, u)))
set_option maxRecDepth 20000 in
theorem sX12_in (v0 : Int64) (v2 : Int64) (v4 : Int64) (u : US) : Sim tI mX12_in 0 (fX12_in v0 v2 v4 u) 0 [some (.long v0), none, some (.long v2), none, some (.long v4), none] [] u := by
  unfold fX12_in
  refine r_lload_n dX12_in_0 rfl ?_
  refine r_lload_n dX12_in_1 rfl ?_
  refine r_lcmp dX12_in_2 ?_
  refine r_if_lt dX12_in_3 (tgt := 17) rfl ?_ ?_
  · refine r_iconst dX12_in_17 (v := 0) rfl ?_
    exact r_zreturn0 rfl dX12_in_18
  · refine r_lload_n dX12_in_6 rfl ?_
    refine r_lload dX12_in_7 rfl ?_
    refine r_lcmp dX12_in_9 ?_
    refine r_if_gt dX12_in_10 (tgt := 17) rfl ?_ ?_
    · refine r_iconst dX12_in_17 (v := 0) rfl ?_
      exact r_zreturn0 rfl dX12_in_18
    · refine r_iconst dX12_in_13 (v := 1) rfl ?_
      refine r_goto dX12_in_14 (tgt := 18) rfl ?_
      exact r_zreturn1 rfl dX12_in_18
theorem okX12_in (v0 : Int64) (v2 : Int64) (v4 : Int64) (u : US) : ∀ r, fX12_in v0 v2 v4 u = some r → MetC mX12_in 0 [.long v0, .long v2, .long v4] u (tI r) :=
  met_of (by decide +kernel) (Nat.le_of_ble_eq_true rfl) rfl (sX12_in v0 v2 v4 u)
def fX12_isPane (v1 : Int32) (u : US) : Option (Int32 × US) :=
  oB (fX12_in ((v1 : Int32).toInt64) 0 (((gI u 47 6) - 1 : Int32).toInt64) u) fun r1 u1 => gd (isB r1) (some (r1, u1))
set_option maxRecDepth 20000 in
theorem sX12_isPane (v1 : Int32) (u : US) : Sim tI mX12_isPane 1 (fX12_isPane v1 u) 0 [some (.ref 47), some (.int v1)] [] u := by
  unfold fX12_isPane
  refine r_iload_n dX12_isPane_0 rfl ?_
  refine r_i2l dX12_isPane_1 ?_
  refine r_lconst dX12_isPane_2 (v := 0) rfl ?_
  refine r_aload_n dX12_isPane_3 rfl ?_
  refine r_get 47 6 flX12_147 rfl (v := .int (gI u 47 6)) rfl dX12_isPane_4 ?_
  refine r_iconst dX12_isPane_7 (v := 1) rfl ?_
  refine r_isub dX12_isPane_8 ?_
  refine r_i2l dX12_isPane_9 ?_
  refine c_SI (As := [.long ((v1 : Int32).toInt64), .long 0, .long (((gI u 47 6) - 1 : Int32).toInt64)]) ksX12_143 (by decide) (okX12_in ((v1 : Int32).toInt64) 0 (((gI u 47 6) - 1 : Int32).toInt64) u) rfl (Nat.le_of_ble_eq_true rfl) rfl dX12_isPane_10 (fun r1 u1 => ?_)
  exact r_zreturn rfl dX12_isPane_13
theorem okX12_isPane (v1 : Int32) (u : US) : ∀ r, fX12_isPane v1 u = some r → MetC mX12_isPane 1 [.ref 47, .int v1] u (tI r) :=
  met_of (by decide +kernel) (Nat.le_of_ble_eq_true rfl) rfl (sX12_isPane v1 u)
def fX12_panesOf_5 (v1 : Nat) (v2 : Int32) : Nat → Int32 → Int32 → US → Option (Int32 × US)
  | 0, _, _, _ => none
  | n + 1, v3, v4, u => (if (gI u 47 6) ≤ v4 then some (v3, u) else gd (inb (16 + v4) (ln v1)) ((if (gA u v1 (16 + v4)) = v2 then fX12_panesOf_5 v1 v2 n (v3 ||| (1 <<< (v4 &&& 31))) (v4 + 1) u else fX12_panesOf_5 v1 v2 n (v3 ||| 0) (v4 + 1) u)))
set_option maxRecDepth 20000 in
theorem sX12_panesOf_5 (v1 : Nat) (v2 : Int32) (h1 : okA v1 20 = true) : ∀ (n : Nat) (v3 : Int32) (v4 : Int32) (u : US), Sim tI mX12_panesOf 0 (fX12_panesOf_5 v1 v2 n v3 v4 u) 5 [some (.ref 47), some (.ref v1), some (.int v2), some (.int v3), some (.int v4)] [] u := by
  intro n
  induction n with
  | zero =>
    intro v3 v4 u
    rw [fX12_panesOf_5.eq_1]
    exact r_none
  | succ n ih =>
    intro v3 v4 u
    rw [fX12_panesOf_5.eq_2]
    refine r_iload dX12_panesOf_5 rfl ?_
    refine r_aload_n dX12_panesOf_7 rfl ?_
    refine r_get 47 6 flX12_147 rfl (v := .int (gI u 47 6)) rfl dX12_panesOf_8 ?_
    refine r_icmp_ge dX12_panesOf_11 (tgt := 42) rfl ?_ ?_
    · refine r_iload_n dX12_panesOf_42 rfl ?_
      exact r_ireturn rfl dX12_panesOf_43
    · refine r_iload_n dX12_panesOf_14 rfl ?_
      refine r_aload_n dX12_panesOf_15 rfl ?_
      refine r_bipush dX12_panesOf_16 (v := 16) rfl ?_
      refine r_iload dX12_panesOf_18 rfl ?_
      refine r_iadd dX12_panesOf_20 ?_
      refine r_iald v1 h1 dX12_panesOf_21 ?_
      refine r_iload_n dX12_panesOf_22 rfl ?_
      refine r_icmp_ne dX12_panesOf_23 (tgt := 33) rfl ?_ ?_
      · refine r_iconst dX12_panesOf_33 (v := 0) rfl ?_
        refine r_ior dX12_panesOf_34 ?_
        refine r_istore_n dX12_panesOf_35 (Nat.le_of_ble_eq_true rfl) (ls2 := [some (.ref 47), some (.ref v1), some (.int v2), some (.int (v3 ||| 0)), some (.int v4)]) rfl ?_
        refine r_iinc dX12_panesOf_36 (Nat.le_of_ble_eq_true rfl) rfl (v := v4 + 1) rfl (ls2 := [some (.ref 47), some (.ref v1), some (.int v2), some (.int (v3 ||| 0)), some (.int (v4 + 1))]) rfl ?_
        refine r_goto dX12_panesOf_39 (tgt := 5) rfl ?_
        exact ih (v3 ||| 0) (v4 + 1) u
      · refine r_iconst dX12_panesOf_26 (v := 1) rfl ?_
        refine r_iload dX12_panesOf_27 rfl ?_
        refine r_ishl dX12_panesOf_29 ?_
        refine r_goto dX12_panesOf_30 (tgt := 34) rfl ?_
        refine r_ior dX12_panesOf_34 ?_
        refine r_istore_n dX12_panesOf_35 (Nat.le_of_ble_eq_true rfl) (ls2 := [some (.ref 47), some (.ref v1), some (.int v2), some (.int (v3 ||| (1 <<< (v4 &&& 31)))), some (.int v4)]) rfl ?_
        refine r_iinc dX12_panesOf_36 (Nat.le_of_ble_eq_true rfl) rfl (v := v4 + 1) rfl (ls2 := [some (.ref 47), some (.ref v1), some (.int v2), some (.int (v3 ||| (1 <<< (v4 &&& 31)))), some (.int (v4 + 1))]) rfl ?_
        refine r_goto dX12_panesOf_39 (tgt := 5) rfl ?_
        exact ih (v3 ||| (1 <<< (v4 &&& 31))) (v4 + 1) u
def fX12_panesOf (v1 : Nat) (v2 : Int32) (u : US) : Option (Int32 × US) :=
  gd (okA v1 20) (fX12_panesOf_5 v1 v2 FU 0 0 u)
set_option maxRecDepth 20000 in
theorem sX12_panesOf (v1 : Nat) (v2 : Int32) (u : US) : Sim tI mX12_panesOf 0 (fX12_panesOf v1 v2 u) 0 [some (.ref 47), some (.ref v1), some (.int v2), none, none] [] u := by
  unfold fX12_panesOf
  refine r_gd (fun h1 => ?_)
  refine r_iconst dX12_panesOf_0 (v := 0) rfl ?_
  refine r_istore_n dX12_panesOf_1 (Nat.le_of_ble_eq_true rfl) (ls2 := [some (.ref 47), some (.ref v1), some (.int v2), some (.int 0), none]) rfl ?_
  refine r_iconst dX12_panesOf_2 (v := 0) rfl ?_
  refine r_istore dX12_panesOf_3 (Nat.le_of_ble_eq_true rfl) (ls2 := [some (.ref 47), some (.ref v1), some (.int v2), some (.int 0), some (.int 0)]) rfl ?_
  exact sX12_panesOf_5 v1 v2 h1 FU 0 0 u
theorem okX12_panesOf (v1 : Nat) (v2 : Int32) (u : US) : ∀ r, fX12_panesOf v1 v2 u = some r → MetC mX12_panesOf 0 [.ref 47, .ref v1, .int v2] u (tI r) :=
  met_of (by decide +kernel) (Nat.le_of_ble_eq_true rfl) rfl (sX12_panesOf v1 v2 u)
def fX12_has (v0 : Int32) (v1 : Int32) (u : US) : Option (Int32 × US) :=
  (if ((v0 >>> (v1 &&& 31)) &&& 1) = 1 then some (1, u) else some (0, u))
set_option maxRecDepth 20000 in
theorem sX12_has (v0 : Int32) (v1 : Int32) (u : US) : Sim tI mX12_has 0 (fX12_has v0 v1 u) 0 [some (.int v0), some (.int v1)] [] u := by
  unfold fX12_has
  refine r_iload_n dX12_has_0 rfl ?_
  refine r_iload_n dX12_has_1 rfl ?_
  refine r_ishr dX12_has_2 ?_
  refine r_iconst dX12_has_3 (v := 1) rfl ?_
  refine r_iand dX12_has_4 ?_
  refine r_iconst dX12_has_5 (v := 1) rfl ?_
  refine r_icmp_ne dX12_has_6 (tgt := 13) rfl ?_ ?_
  · refine r_iconst dX12_has_13 (v := 0) rfl ?_
    exact r_zreturn0 rfl dX12_has_14
  · refine r_iconst dX12_has_9 (v := 1) rfl ?_
    refine r_goto dX12_has_10 (tgt := 14) rfl ?_
    exact r_zreturn1 rfl dX12_has_14
theorem okX12_has (v0 : Int32) (v1 : Int32) (u : US) : ∀ r, fX12_has v0 v1 u = some r → MetC mX12_has 0 [.int v0, .int v1] u (tI r) :=
  met_of (by decide +kernel) (Nat.le_of_ble_eq_true rfl) rfl (sX12_has v0 v1 u)
def fX12_worked_50 (v0 : Int32) (v1 : Int32) (v2 : Int32) (s0 : Int32) (u : US) : Option (Int32 × US) :=
  oB (fX12_flag s0 u) fun r1 u1 => some (r1, u1)
set_option maxRecDepth 20000 in
theorem sX12_worked_50 (v0 : Int32) (v1 : Int32) (v2 : Int32) (s0 : Int32) (u : US) : Sim tI mX12_worked 1 (fX12_worked_50 v0 v1 v2 s0 u) 50 [some (.int v0), some (.int v1), some (.int v2)] [.int s0] u := by
  unfold fX12_worked_50
  refine c_SI (As := [.int s0]) ksX12_175 (by decide) (okX12_flag s0 u) rfl (Nat.le_of_ble_eq_true rfl) rfl dX12_worked_50 (fun r1 u1 => ?_)
  exact r_ireturn rfl dX12_worked_53
def fX12_worked_64 (v0 : Int32) (v1 : Int32) (v2 : Int32) (s0 : Int32) (u : US) : Option (Int32 × US) :=
  oB (fX12_flag s0 u) fun r1 u1 => some (r1, u1)
set_option maxRecDepth 20000 in
theorem sX12_worked_64 (v0 : Int32) (v1 : Int32) (v2 : Int32) (s0 : Int32) (u : US) : Sim tI mX12_worked 1 (fX12_worked_64 v0 v1 v2 s0 u) 64 [some (.int v0), some (.int v1), some (.int v2)] [.int s0] u := by
  unfold fX12_worked_64
  refine c_SI (As := [.int s0]) ksX12_175 (by decide) (okX12_flag s0 u) rfl (Nat.le_of_ble_eq_true rfl) rfl dX12_worked_64 (fun r1 u1 => ?_)
  exact r_ireturn rfl dX12_worked_67
def fX12_worked_78 (v0 : Int32) (v1 : Int32) (v2 : Int32) (s0 : Int32) (u : US) : Option (Int32 × US) :=
  oB (fX12_flag s0 u) fun r1 u1 => some (r1, u1)
set_option maxRecDepth 20000 in
theorem sX12_worked_78 (v0 : Int32) (v1 : Int32) (v2 : Int32) (s0 : Int32) (u : US) : Sim tI mX12_worked 1 (fX12_worked_78 v0 v1 v2 s0 u) 78 [some (.int v0), some (.int v1), some (.int v2)] [.int s0] u := by
  unfold fX12_worked_78
  refine c_SI (As := [.int s0]) ksX12_175 (by decide) (okX12_flag s0 u) rfl (Nat.le_of_ble_eq_true rfl) rfl dX12_worked_78 (fun r1 u1 => ?_)
  exact r_ireturn rfl dX12_worked_81
def fX12_worked (v0 : Int32) (v1 : Int32) (v2 : Int32) (u : US) : Option (Int32 × US) :=
  (if v0 = 0 then (if v2 ≤ v1 then fX12_worked_50 v0 v1 v2 0 u else fX12_worked_50 v0 v1 v2 1 u) else (if v0 = 1 then (if v1 ≤ v2 then fX12_worked_64 v0 v1 v2 0 u else fX12_worked_64 v0 v1 v2 1 u) else (if v0 = 2 then (if v1 = v2 then fX12_worked_78 v0 v1 v2 1 u else fX12_worked_78 v0 v1 v2 0 u) else (if v0 = 3 then some (v1 + v2, u) else (if v0 = 4 then some (v1 - v2, u) else (if v0 = 5 then some (v1 * v2, u) else (if v2 = 0 then some (0, u) else if v2 = 0 then none else some (v1 / v2, u))))))))
set_option maxRecDepth 20000 in
theorem sX12_worked (v0 : Int32) (v1 : Int32) (v2 : Int32) (u : US) : Sim tI mX12_worked 1 (fX12_worked v0 v1 v2 u) 0 [some (.int v0), some (.int v1), some (.int v2)] [] u := by
  unfold fX12_worked
  refine r_iload_n dX12_worked_0 rfl ?_
  refine r_ite (fun hc0 => ?_) (fun hc0 => ?_)
  · refine r_tabIn dX12_worked_1 (off := 39) (by rw [hc0]; decide) (by rw [hc0]; decide) (by rw [hc0]; rfl) (tgt := 40) rfl ?_
    refine r_iload_n dX12_worked_40 rfl ?_
    refine r_iload_n dX12_worked_41 rfl ?_
    refine r_icmp_ge dX12_worked_42 (tgt := 49) rfl ?_ ?_
    · refine r_iconst dX12_worked_49 (v := 0) rfl ?_
      exact sX12_worked_50 v0 v1 v2 0 u
    · refine r_iconst dX12_worked_45 (v := 1) rfl ?_
      refine r_goto dX12_worked_46 (tgt := 50) rfl ?_
      exact sX12_worked_50 v0 v1 v2 1 u
  refine r_ite (fun hc1 => ?_) (fun hc1 => ?_)
  · refine r_tabIn dX12_worked_1 (off := 53) (by rw [hc1]; decide) (by rw [hc1]; decide) (by rw [hc1]; rfl) (tgt := 54) rfl ?_
    refine r_iload_n dX12_worked_54 rfl ?_
    refine r_iload_n dX12_worked_55 rfl ?_
    refine r_icmp_le dX12_worked_56 (tgt := 63) rfl ?_ ?_
    · refine r_iconst dX12_worked_63 (v := 0) rfl ?_
      exact sX12_worked_64 v0 v1 v2 0 u
    · refine r_iconst dX12_worked_59 (v := 1) rfl ?_
      refine r_goto dX12_worked_60 (tgt := 64) rfl ?_
      exact sX12_worked_64 v0 v1 v2 1 u
  refine r_ite (fun hc2 => ?_) (fun hc2 => ?_)
  · refine r_tabIn dX12_worked_1 (off := 67) (by rw [hc2]; decide) (by rw [hc2]; decide) (by rw [hc2]; rfl) (tgt := 68) rfl ?_
    refine r_iload_n dX12_worked_68 rfl ?_
    refine r_iload_n dX12_worked_69 rfl ?_
    refine r_icmp_ne dX12_worked_70 (tgt := 77) rfl ?_ ?_
    · refine r_iconst dX12_worked_77 (v := 0) rfl ?_
      exact sX12_worked_78 v0 v1 v2 0 u
    · refine r_iconst dX12_worked_73 (v := 1) rfl ?_
      refine r_goto dX12_worked_74 (tgt := 78) rfl ?_
      exact sX12_worked_78 v0 v1 v2 1 u
  refine r_ite (fun hc3 => ?_) (fun hc3 => ?_)
  · refine r_tabIn dX12_worked_1 (off := 81) (by rw [hc3]; decide) (by rw [hc3]; decide) (by rw [hc3]; rfl) (tgt := 82) rfl ?_
    refine r_iload_n dX12_worked_82 rfl ?_
    refine r_iload_n dX12_worked_83 rfl ?_
    refine r_iadd dX12_worked_84 ?_
    exact r_ireturn rfl dX12_worked_85
  refine r_ite (fun hc4 => ?_) (fun hc4 => ?_)
  · refine r_tabIn dX12_worked_1 (off := 85) (by rw [hc4]; decide) (by rw [hc4]; decide) (by rw [hc4]; rfl) (tgt := 86) rfl ?_
    refine r_iload_n dX12_worked_86 rfl ?_
    refine r_iload_n dX12_worked_87 rfl ?_
    refine r_isub dX12_worked_88 ?_
    exact r_ireturn rfl dX12_worked_89
  refine r_ite (fun hc5 => ?_) (fun hc5 => ?_)
  · refine r_tabIn dX12_worked_1 (off := 89) (by rw [hc5]; decide) (by rw [hc5]; decide) (by rw [hc5]; rfl) (tgt := 90) rfl ?_
    refine r_iload_n dX12_worked_90 rfl ?_
    refine r_iload_n dX12_worked_91 rfl ?_
    refine r_imul dX12_worked_92 ?_
    exact r_ireturn rfl dX12_worked_93
  have hn0 := ne_int hc0
  have hn1 := ne_int hc1
  have hn2 := ne_int hc2
  have hn3 := ne_int hc3
  have hn4 := ne_int hc4
  have hn5 := ne_int hc5
  rw [show (0 : Int32).toInt = 0 from rfl] at hn0
  rw [show (1 : Int32).toInt = 1 from rfl] at hn1
  rw [show (2 : Int32).toInt = 2 from rfl] at hn2
  rw [show (3 : Int32).toInt = 3 from rfl] at hn3
  rw [show (4 : Int32).toInt = 4 from rfl] at hn4
  rw [show (5 : Int32).toInt = 5 from rfl] at hn5
  refine r_tabOut dX12_worked_1 (by omega) (tgt := 94) rfl ?_
  refine r_iload_n dX12_worked_94 rfl ?_
  refine r_if_ne dX12_worked_95 (tgt := 102) rfl ?_ ?_
  · refine r_iload_n dX12_worked_102 rfl ?_
    refine r_iload_n dX12_worked_103 rfl ?_
    refine r_idiv dX12_worked_104 ?_
    exact r_ireturn rfl dX12_worked_105
  · refine r_iconst dX12_worked_98 (v := 0) rfl ?_
    refine r_goto dX12_worked_99 (tgt := 105) rfl ?_
    exact r_ireturn rfl dX12_worked_105
theorem okX12_worked (v0 : Int32) (v1 : Int32) (v2 : Int32) (u : US) : ∀ r, fX12_worked v0 v1 v2 u = some r → MetC mX12_worked 1 [.int v0, .int v1, .int v2] u (tI r) :=
  met_of (by decide +kernel) (Nat.le_of_ble_eq_true rfl) rfl (sX12_worked v0 v1 v2 u)
def fX12_ruled_161 (s0 : Int32) (u : US) : Option (Int32 × US) :=
  oB (fX12_flag s0 u) fun r1 u1 => some (r1, u1)
set_option maxRecDepth 20000 in
theorem sX12_ruled_161 (s0 : Int32) (u : US) : Sim tI mX12_ruled 2 (fX12_ruled_161 s0 u) 161 [some (.ref 47), none, none, none] [.int s0] u := by
  unfold fX12_ruled_161
  refine c_SI (As := [.int s0]) ksX12_175 (by decide) (okX12_flag s0 u) rfl (Nat.le_of_ble_eq_true rfl) rfl dX12_ruled_161 (fun r1 u1 => ?_)
  refine r_goto dX12_ruled_164 (tgt := 173) rfl ?_
  exact r_ireturn rfl dX12_ruled_173
def fX12_ruled_160 (u : US) : Option (Int32 × US) :=
  fX12_ruled_161 0 u
set_option maxRecDepth 20000 in
theorem sX12_ruled_160 (u : US) : Sim tI mX12_ruled 2 (fX12_ruled_160 u) 160 [some (.ref 47), none, none, none] [] u := by
  unfold fX12_ruled_160
  refine r_iconst dX12_ruled_160 (v := 0) rfl ?_
  exact sX12_ruled_161 0 u
def fX12_ruled_4 : Nat → Int32 → Int32 → US → Option (Int32 × US)
  | 0, _, _, _ => none
  | n + 1, v1, v2, u => (if (gI u 47 26) ≤ v2 then (if (gI u 47 26) = 0 then gd (inb 3 6) ((if (gA u 62 3) = 0 then gd (inb 1 6) (gd (inb 2 6) ((if (gA u 62 2) < (gA u 62 1) then fX12_ruled_160 u else fX12_ruled_161 1 u))) else fX12_ruled_160 u)) else gd (inb 0 80) (some (gA u 61 0, u))) else gd (inb v2 80) ((if (gA u 59 v2) = 3000 then gd (inb (v1 - 1) 80) (gd (inb (v1 - 1) 80) (nx (sA u 61 (v1 - 1) (-(gA u 61 (v1 - 1)))) fun u5 => fX12_ruled_4 n v1 (v2 + 1) u5)) else (if (gA u 59 v2) < 2000 then (if (gA u 59 v2) < 1000 then gd (inb v1 80) (nx (sA u 61 v1 (gA u 59 v2)) fun u1 => fX12_ruled_4 n (v1 + 1) (v2 + 1) u1) else gd (inb ((gA u 59 v2) - 1000) 6) (gd (inb v1 80) (nx (sA u 61 v1 (gA u 62 ((gA u 59 v2) - 1000))) fun u2 => fX12_ruled_4 n (v1 + 1) (v2 + 1) u2))) else gd (inb ((v1 + (-1)) - 1) 80) (gd (inb (v1 + (-1)) 80) (oB (fX12_worked ((gA u 59 v2) - 2000) (gA u 61 ((v1 + (-1)) - 1)) (gA u 61 (v1 + (-1))) u) fun r3 u3 => gd (inb ((v1 + (-1)) - 1) 80) (nx (sA u3 61 ((v1 + (-1)) - 1) r3) fun u4 => fX12_ruled_4 n (v1 + (-1)) (v2 + 1) u4)))))))
set_option maxRecDepth 20000 in
theorem sX12_ruled_4 : ∀ (n : Nat) (v1 : Int32) (v2 : Int32) (u : US), Sim tI mX12_ruled 2 (fX12_ruled_4 n v1 v2 u) 4 [some (.ref 47), some (.int v1), some (.int v2), none] [] u := by
  intro n
  induction n with
  | zero =>
    intro v1 v2 u
    rw [fX12_ruled_4.eq_1]
    exact r_none
  | succ n ih =>
    intro v1 v2 u
    rw [fX12_ruled_4.eq_2]
    refine r_iload_n dX12_ruled_4 rfl ?_
    refine r_aload_n dX12_ruled_5 rfl ?_
    refine r_get 47 26 flX12_282 rfl (v := .int (gI u 47 26)) rfl dX12_ruled_6 ?_
    refine r_icmp_ge dX12_ruled_9 (tgt := 125) rfl ?_ ?_
    · refine r_aload_n dX12_ruled_125 rfl ?_
      refine r_get 47 26 flX12_282 rfl (v := .int (gI u 47 26)) rfl dX12_ruled_126 ?_
      refine r_if_ne dX12_ruled_129 (tgt := 167) rfl ?_ ?_
      · refine r_aload_n dX12_ruled_167 rfl ?_
        refine r_get 47 28 flX12_67 rfl (v := .ref 61) rfl dX12_ruled_168 ?_
        refine r_iconst dX12_ruled_171 (v := 0) rfl ?_
        refine r_iald 61 rfl dX12_ruled_172 ?_
        exact r_ireturn rfl dX12_ruled_173
      · refine r_aload_n dX12_ruled_132 rfl ?_
        refine r_get 47 29 flX12_70 rfl (v := .ref 62) rfl dX12_ruled_133 ?_
        refine r_iconst dX12_ruled_136 (v := 3) rfl ?_
        refine r_iald 62 rfl dX12_ruled_137 ?_
        refine r_if_ne dX12_ruled_138 (tgt := 160) rfl ?_ ?_
        · refine r_mk [true, false, false, false] (ls2 := [some (.ref 47), none, none, none]) rfl ?_
          exact sX12_ruled_160 u
        · refine r_aload_n dX12_ruled_141 rfl ?_
          refine r_get 47 29 flX12_70 rfl (v := .ref 62) rfl dX12_ruled_142 ?_
          refine r_iconst dX12_ruled_145 (v := 1) rfl ?_
          refine r_iald 62 rfl dX12_ruled_146 ?_
          refine r_aload_n dX12_ruled_147 rfl ?_
          refine r_get 47 29 flX12_70 rfl (v := .ref 62) rfl dX12_ruled_148 ?_
          refine r_iconst dX12_ruled_151 (v := 2) rfl ?_
          refine r_iald 62 rfl dX12_ruled_152 ?_
          refine r_icmp_gt dX12_ruled_153 (tgt := 160) rfl ?_ ?_
          · refine r_mk [true, false, false, false] (ls2 := [some (.ref 47), none, none, none]) rfl ?_
            exact sX12_ruled_160 u
          · refine r_iconst dX12_ruled_156 (v := 1) rfl ?_
            refine r_goto dX12_ruled_157 (tgt := 161) rfl ?_
            refine r_mk [true, false, false, false] (ls2 := [some (.ref 47), none, none, none]) rfl ?_
            exact sX12_ruled_161 1 u
    · refine r_aload_n dX12_ruled_12 rfl ?_
      refine r_get 47 24 flX12_61 rfl (v := .ref 59) rfl dX12_ruled_13 ?_
      refine r_iload_n dX12_ruled_16 rfl ?_
      refine r_iald 59 rfl dX12_ruled_17 ?_
      refine r_istore_n dX12_ruled_18 (Nat.le_of_ble_eq_true rfl) (ls2 := [some (.ref 47), some (.int v1), some (.int v2), some (.int (gA u 59 v2))]) rfl ?_
      refine r_iload_n dX12_ruled_19 rfl ?_
      refine r_sipush dX12_ruled_20 (v := 3000) rfl ?_
      refine r_icmp_ne dX12_ruled_23 (tgt := 46) rfl ?_ ?_
      · refine r_iload_n dX12_ruled_46 rfl ?_
        refine r_sipush dX12_ruled_47 (v := 2000) rfl ?_
        refine r_icmp_lt dX12_ruled_50 (tgt := 89) rfl ?_ ?_
        · refine r_aload_n dX12_ruled_89 rfl ?_
          refine r_get 47 28 flX12_67 rfl (v := .ref 61) rfl dX12_ruled_90 ?_
          refine r_iload_n dX12_ruled_93 rfl ?_
          refine r_iload_n dX12_ruled_94 rfl ?_
          refine r_sipush dX12_ruled_95 (v := 1000) rfl ?_
          refine r_icmp_lt dX12_ruled_98 (tgt := 114) rfl ?_ ?_
          · refine r_iload_n dX12_ruled_114 rfl ?_
            refine r_iast 61 rfl dX12_ruled_115 (r_nx (fun u1 => ?_))
            refine r_iinc dX12_ruled_116 (Nat.le_of_ble_eq_true rfl) rfl (v := v1 + 1) rfl (ls2 := [some (.ref 47), some (.int (v1 + 1)), some (.int v2), some (.int (gA u 59 v2))]) rfl ?_
            refine r_iinc dX12_ruled_119 (Nat.le_of_ble_eq_true rfl) rfl (v := v2 + 1) rfl (ls2 := [some (.ref 47), some (.int (v1 + 1)), some (.int (v2 + 1)), some (.int (gA u 59 v2))]) rfl ?_
            refine r_goto dX12_ruled_122 (tgt := 4) rfl ?_
            refine r_mk [true, true, true, false] (ls2 := [some (.ref 47), some (.int (v1 + 1)), some (.int (v2 + 1)), none]) rfl ?_
            exact ih (v1 + 1) (v2 + 1) u1
          · refine r_aload_n dX12_ruled_101 rfl ?_
            refine r_get 47 29 flX12_70 rfl (v := .ref 62) rfl dX12_ruled_102 ?_
            refine r_iload_n dX12_ruled_105 rfl ?_
            refine r_sipush dX12_ruled_106 (v := 1000) rfl ?_
            refine r_isub dX12_ruled_109 ?_
            refine r_iald 62 rfl dX12_ruled_110 ?_
            refine r_goto dX12_ruled_111 (tgt := 115) rfl ?_
            refine r_iast 61 rfl dX12_ruled_115 (r_nx (fun u2 => ?_))
            refine r_iinc dX12_ruled_116 (Nat.le_of_ble_eq_true rfl) rfl (v := v1 + 1) rfl (ls2 := [some (.ref 47), some (.int (v1 + 1)), some (.int v2), some (.int (gA u 59 v2))]) rfl ?_
            refine r_iinc dX12_ruled_119 (Nat.le_of_ble_eq_true rfl) rfl (v := v2 + 1) rfl (ls2 := [some (.ref 47), some (.int (v1 + 1)), some (.int (v2 + 1)), some (.int (gA u 59 v2))]) rfl ?_
            refine r_goto dX12_ruled_122 (tgt := 4) rfl ?_
            refine r_mk [true, true, true, false] (ls2 := [some (.ref 47), some (.int (v1 + 1)), some (.int (v2 + 1)), none]) rfl ?_
            exact ih (v1 + 1) (v2 + 1) u2
        · refine r_iinc dX12_ruled_53 (Nat.le_of_ble_eq_true rfl) rfl (v := v1 + (-1)) rfl (ls2 := [some (.ref 47), some (.int (v1 + (-1))), some (.int v2), some (.int (gA u 59 v2))]) rfl ?_
          refine r_aload_n dX12_ruled_56 rfl ?_
          refine r_get 47 28 flX12_67 rfl (v := .ref 61) rfl dX12_ruled_57 ?_
          refine r_iload_n dX12_ruled_60 rfl ?_
          refine r_iconst dX12_ruled_61 (v := 1) rfl ?_
          refine r_isub dX12_ruled_62 ?_
          refine r_iload_n dX12_ruled_63 rfl ?_
          refine r_sipush dX12_ruled_64 (v := 2000) rfl ?_
          refine r_isub dX12_ruled_67 ?_
          refine r_aload_n dX12_ruled_68 rfl ?_
          refine r_get 47 28 flX12_67 rfl (v := .ref 61) rfl dX12_ruled_69 ?_
          refine r_iload_n dX12_ruled_72 rfl ?_
          refine r_iconst dX12_ruled_73 (v := 1) rfl ?_
          refine r_isub dX12_ruled_74 ?_
          refine r_iald 61 rfl dX12_ruled_75 ?_
          refine r_aload_n dX12_ruled_76 rfl ?_
          refine r_get 47 28 flX12_67 rfl (v := .ref 61) rfl dX12_ruled_77 ?_
          refine r_iload_n dX12_ruled_80 rfl ?_
          refine r_iald 61 rfl dX12_ruled_81 ?_
          refine c_SI (As := [.int ((gA u 59 v2) - 2000), .int (gA u 61 ((v1 + (-1)) - 1)), .int (gA u 61 (v1 + (-1)))]) ksX12_292 (by decide) (okX12_worked ((gA u 59 v2) - 2000) (gA u 61 ((v1 + (-1)) - 1)) (gA u 61 (v1 + (-1))) u) rfl (Nat.le_of_ble_eq_true rfl) rfl dX12_ruled_82 (fun r3 u3 => ?_)
          refine r_iast 61 rfl dX12_ruled_85 (r_nx (fun u4 => ?_))
          refine r_goto dX12_ruled_86 (tgt := 119) rfl ?_
          refine r_iinc dX12_ruled_119 (Nat.le_of_ble_eq_true rfl) rfl (v := v2 + 1) rfl (ls2 := [some (.ref 47), some (.int (v1 + (-1))), some (.int (v2 + 1)), some (.int (gA u 59 v2))]) rfl ?_
          refine r_goto dX12_ruled_122 (tgt := 4) rfl ?_
          refine r_mk [true, true, true, false] (ls2 := [some (.ref 47), some (.int (v1 + (-1))), some (.int (v2 + 1)), none]) rfl ?_
          exact ih (v1 + (-1)) (v2 + 1) u4
      · refine r_aload_n dX12_ruled_26 rfl ?_
        refine r_get 47 28 flX12_67 rfl (v := .ref 61) rfl dX12_ruled_27 ?_
        refine r_iload_n dX12_ruled_30 rfl ?_
        refine r_iconst dX12_ruled_31 (v := 1) rfl ?_
        refine r_isub dX12_ruled_32 ?_
        refine r_aload_n dX12_ruled_33 rfl ?_
        refine r_get 47 28 flX12_67 rfl (v := .ref 61) rfl dX12_ruled_34 ?_
        refine r_iload_n dX12_ruled_37 rfl ?_
        refine r_iconst dX12_ruled_38 (v := 1) rfl ?_
        refine r_isub dX12_ruled_39 ?_
        refine r_iald 61 rfl dX12_ruled_40 ?_
        refine r_ineg dX12_ruled_41 ?_
        refine r_iast 61 rfl dX12_ruled_42 (r_nx (fun u5 => ?_))
        refine r_goto dX12_ruled_43 (tgt := 119) rfl ?_
        refine r_iinc dX12_ruled_119 (Nat.le_of_ble_eq_true rfl) rfl (v := v2 + 1) rfl (ls2 := [some (.ref 47), some (.int v1), some (.int (v2 + 1)), some (.int (gA u 59 v2))]) rfl ?_
        refine r_goto dX12_ruled_122 (tgt := 4) rfl ?_
        refine r_mk [true, true, true, false] (ls2 := [some (.ref 47), some (.int v1), some (.int (v2 + 1)), none]) rfl ?_
        exact ih v1 (v2 + 1) u5
def fX12_ruled (u : US) : Option (Int32 × US) :=
  fX12_ruled_4 FU 0 0 u
set_option maxRecDepth 20000 in
theorem sX12_ruled (u : US) : Sim tI mX12_ruled 2 (fX12_ruled u) 0 [some (.ref 47), none, none, none] [] u := by
  unfold fX12_ruled
  refine r_iconst dX12_ruled_0 (v := 0) rfl ?_
  refine r_istore_n dX12_ruled_1 (Nat.le_of_ble_eq_true rfl) (ls2 := [some (.ref 47), some (.int 0), none, none]) rfl ?_
  refine r_iconst dX12_ruled_2 (v := 0) rfl ?_
  refine r_istore_n dX12_ruled_3 (Nat.le_of_ble_eq_true rfl) (ls2 := [some (.ref 47), some (.int 0), some (.int 0), none]) rfl ?_
  exact sX12_ruled_4 FU 0 0 u
theorem okX12_ruled (u : US) : ∀ r, fX12_ruled u = some r → MetC mX12_ruled 2 [.ref 47] u (tI r) :=
  met_of (by decide +kernel) (Nat.le_of_ble_eq_true rfl) rfl (sX12_ruled u)
def fX12_lets (v1 : Nat) (v2 : Int32) (v3 : Int32) (v4 : Int32) (u : US) : Option (Int32 × US) :=
  gd (okA v1 20) (gd (inb 0 6) (nx (sA u 62 0 v3) fun u1 => gd (inb 1 6) (nx (sA u1 62 1 v4) fun u2 => gd (inb v2 8) (gd (inb 2 6) (nx (sA u2 62 2 (gA u2 51 v2)) fun u3 => gd (inb v2 8) (oB (fX12_has (gA u3 52 v2) v3 u3) fun r4 u4 => oB (fX12_flag r4 u4) fun r5 u5 => gd (inb 3 6) (nx (sA u5 62 3 r5) fun u6 => gd (inb v2 8) (oB (fJ6_bitCount_0f7a4 (gA u6 52 v2) u6) fun r7 u7 => gd (inb 4 6) (nx (sA u7 62 4 r7) fun u8 => gd (inb 25 (ln v1)) (if (24 : Int32) = 0 then none else gd (inb 5 6) (nx (sA u8 62 5 ((gA u8 v1 25) - (gA u8 v1 25) / 24 * 24)) fun u9 => gd (inb 24 (ln v1)) (oB (fX12_has (gA u9 v1 24) v2 u9) fun r10 u10 => (if r10 = 0 then oB (fX12_ruled u10) fun r11 u11 => (if r11 = 0 then some (0, u11) else some (1, u11)) else some (1, u10))))))))))))))
set_option maxRecDepth 20000 in
theorem sX12_lets (v1 : Nat) (v2 : Int32) (v3 : Int32) (v4 : Int32) (u : US) : Sim tI mX12_lets 3 (fX12_lets v1 v2 v3 v4 u) 0 [some (.ref 47), some (.ref v1), some (.int v2), some (.int v3), some (.int v4)] [] u := by
  unfold fX12_lets
  refine r_gd (fun h1 => ?_)
  refine r_aload_n dX12_lets_0 rfl ?_
  refine r_get 47 29 flX12_70 rfl (v := .ref 62) rfl dX12_lets_1 ?_
  refine r_iconst dX12_lets_4 (v := 0) rfl ?_
  refine r_iload_n dX12_lets_5 rfl ?_
  refine r_iast 62 rfl dX12_lets_6 (r_nx (fun u1 => ?_))
  refine r_aload_n dX12_lets_7 rfl ?_
  refine r_get 47 29 flX12_70 rfl (v := .ref 62) rfl dX12_lets_8 ?_
  refine r_iconst dX12_lets_11 (v := 1) rfl ?_
  refine r_iload dX12_lets_12 rfl ?_
  refine r_iast 62 rfl dX12_lets_14 (r_nx (fun u2 => ?_))
  refine r_aload_n dX12_lets_15 rfl ?_
  refine r_get 47 29 flX12_70 rfl (v := .ref 62) rfl dX12_lets_16 ?_
  refine r_iconst dX12_lets_19 (v := 2) rfl ?_
  refine r_aload_n dX12_lets_20 rfl ?_
  refine r_get 47 11 flX12_37 rfl (v := .ref 51) rfl dX12_lets_21 ?_
  refine r_iload_n dX12_lets_24 rfl ?_
  refine r_iald 51 rfl dX12_lets_25 ?_
  refine r_iast 62 rfl dX12_lets_26 (r_nx (fun u3 => ?_))
  refine r_aload_n dX12_lets_27 rfl ?_
  refine r_get 47 29 flX12_70 rfl (v := .ref 62) rfl dX12_lets_28 ?_
  refine r_iconst dX12_lets_31 (v := 3) rfl ?_
  refine r_aload_n dX12_lets_32 rfl ?_
  refine r_get 47 12 flX12_40 rfl (v := .ref 52) rfl dX12_lets_33 ?_
  refine r_iload_n dX12_lets_36 rfl ?_
  refine r_iald 52 rfl dX12_lets_37 ?_
  refine r_iload_n dX12_lets_38 rfl ?_
  refine c_SI (As := [.int (gA u3 52 v2), .int v3]) ksX12_296 (by decide) (okX12_has (gA u3 52 v2) v3 u3) rfl (Nat.le_of_ble_eq_true rfl) rfl dX12_lets_39 (fun r4 u4 => ?_)
  refine c_SI (As := [.int r4]) ksX12_175 (by decide) (okX12_flag r4 u4) rfl (Nat.le_of_ble_eq_true rfl) rfl dX12_lets_42 (fun r5 u5 => ?_)
  refine r_iast 62 rfl dX12_lets_45 (r_nx (fun u6 => ?_))
  refine r_aload_n dX12_lets_46 rfl ?_
  refine r_get 47 29 flX12_70 rfl (v := .ref 62) rfl dX12_lets_47 ?_
  refine r_iconst dX12_lets_50 (v := 4) rfl ?_
  refine r_aload_n dX12_lets_51 rfl ?_
  refine r_get 47 12 flX12_40 rfl (v := .ref 52) rfl dX12_lets_52 ?_
  refine r_iload_n dX12_lets_55 rfl ?_
  refine r_iald 52 rfl dX12_lets_56 ?_
  refine c_SI (As := [.int (gA u6 52 v2)]) ksX12_300 (by decide) (okJ6_bitCount_0f7a4 (gA u6 52 v2) u6) rfl (Nat.le_of_ble_eq_true rfl) rfl dX12_lets_57 (fun r7 u7 => ?_)
  refine r_iast 62 rfl dX12_lets_60 (r_nx (fun u8 => ?_))
  refine r_aload_n dX12_lets_61 rfl ?_
  refine r_get 47 29 flX12_70 rfl (v := .ref 62) rfl dX12_lets_62 ?_
  refine r_iconst dX12_lets_65 (v := 5) rfl ?_
  refine r_aload_n dX12_lets_66 rfl ?_
  refine r_bipush dX12_lets_67 (v := 25) rfl ?_
  refine r_iald v1 h1 dX12_lets_69 ?_
  refine r_bipush dX12_lets_70 (v := 24) rfl ?_
  refine r_irem dX12_lets_72 ?_
  refine r_iast 62 rfl dX12_lets_73 (r_nx (fun u9 => ?_))
  refine r_aload_n dX12_lets_74 rfl ?_
  refine r_bipush dX12_lets_75 (v := 24) rfl ?_
  refine r_iald v1 h1 dX12_lets_77 ?_
  refine r_iload_n dX12_lets_78 rfl ?_
  refine c_SI (As := [.int (gA u9 v1 24), .int v2]) ksX12_296 (by decide) (okX12_has (gA u9 v1 24) v2 u9) rfl (Nat.le_of_ble_eq_true rfl) rfl dX12_lets_79 (fun r10 u10 => ?_)
  refine r_if_ne dX12_lets_82 (tgt := 92) rfl ?_ ?_
  · refine r_iconst dX12_lets_92 (v := 1) rfl ?_
    refine r_goto dX12_lets_93 (tgt := 97) rfl ?_
    exact r_zreturn1 rfl dX12_lets_97
  · refine r_aload_n dX12_lets_85 rfl ?_
    refine c_VI (As := []) kvX12_305 rfl (by decide) (okX12_ruled u10) rfl (Nat.le_of_ble_eq_true rfl) rfl dX12_lets_86 (fun r11 u11 => ?_)
    refine r_if_eq dX12_lets_89 (tgt := 96) rfl ?_ ?_
    · refine r_iconst dX12_lets_96 (v := 0) rfl ?_
      exact r_zreturn0 rfl dX12_lets_97
    · refine r_iconst dX12_lets_92 (v := 1) rfl ?_
      refine r_goto dX12_lets_93 (tgt := 97) rfl ?_
      exact r_zreturn1 rfl dX12_lets_97
theorem okX12_lets (v1 : Nat) (v2 : Int32) (v3 : Int32) (v4 : Int32) (u : US) : ∀ r, fX12_lets v1 v2 v3 v4 u = some r → MetC mX12_lets 3 [.ref 47, .ref v1, .int v2, .int v3, .int v4] u (tI r) :=
  met_of (by decide +kernel) (Nat.le_of_ble_eq_true rfl) rfl (sX12_lets v1 v2 v3 v4 u)
def fX12_letsSome_6 (v1 : Nat) (v2 : Int32) (v3 : Int32) (v4 : Int32) : Nat → Int32 → Int32 → US → Option (Int32 × US)
  | 0, _, _, _ => none
  | n + 1, v5, v6, u => (if (gI u 47 6) ≤ v6 then gd (isB v5) (some (v5, u)) else (if v5 = 0 then oB (fX12_has v2 v6 u) fun r1 u1 => (if r1 = 0 then fX12_letsSome_6 v1 v2 v3 v4 n 0 (v6 + 1) u1 else oB (fX12_lets v1 v6 v3 v4 u1) fun r2 u2 => (if r2 = 0 then fX12_letsSome_6 v1 v2 v3 v4 n 0 (v6 + 1) u2 else fX12_letsSome_6 v1 v2 v3 v4 n 1 (v6 + 1) u2)) else fX12_letsSome_6 v1 v2 v3 v4 n 1 (v6 + 1) u))
set_option maxRecDepth 20000 in
theorem sX12_letsSome_6 (v1 : Nat) (v2 : Int32) (v3 : Int32) (v4 : Int32) (h1 : okA v1 20 = true) : ∀ (n : Nat) (v5 : Int32) (v6 : Int32) (u : US), Sim tI mX12_letsSome 4 (fX12_letsSome_6 v1 v2 v3 v4 n v5 v6 u) 6 [some (.ref 47), some (.ref v1), some (.int v2), some (.int v3), some (.int v4), some (.int v5), some (.int v6)] [] u := by
  intro n
  induction n with
  | zero =>
    intro v5 v6 u
    rw [fX12_letsSome_6.eq_1]
    exact r_none
  | succ n ih =>
    intro v5 v6 u
    rw [fX12_letsSome_6.eq_2]
    refine r_iload dX12_letsSome_6 rfl ?_
    refine r_aload_n dX12_letsSome_8 rfl ?_
    refine r_get 47 6 flX12_147 rfl (v := .int (gI u 47 6)) rfl dX12_letsSome_9 ?_
    refine r_icmp_ge dX12_letsSome_12 (tgt := 55) rfl ?_ ?_
    · refine r_iload dX12_letsSome_55 rfl ?_
      exact r_zreturn rfl dX12_letsSome_57
    · refine r_iload dX12_letsSome_15 rfl ?_
      refine r_if_ne dX12_letsSome_17 (tgt := 42) rfl ?_ ?_
      · refine r_iconst dX12_letsSome_42 (v := 1) rfl ?_
        refine r_goto dX12_letsSome_43 (tgt := 47) rfl ?_
        refine r_istore dX12_letsSome_47 (Nat.le_of_ble_eq_true rfl) (ls2 := [some (.ref 47), some (.ref v1), some (.int v2), some (.int v3), some (.int v4), some (.int 1), some (.int v6)]) rfl ?_
        refine r_iinc dX12_letsSome_49 (Nat.le_of_ble_eq_true rfl) rfl (v := v6 + 1) rfl (ls2 := [some (.ref 47), some (.ref v1), some (.int v2), some (.int v3), some (.int v4), some (.int 1), some (.int (v6 + 1))]) rfl ?_
        refine r_goto dX12_letsSome_52 (tgt := 6) rfl ?_
        exact ih 1 (v6 + 1) u
      · refine r_iload_n dX12_letsSome_20 rfl ?_
        refine r_iload dX12_letsSome_21 rfl ?_
        refine c_SI (As := [.int v2, .int v6]) ksX12_296 (by decide) (okX12_has v2 v6 u) rfl (Nat.le_of_ble_eq_true rfl) rfl dX12_letsSome_23 (fun r1 u1 => ?_)
        refine r_if_eq dX12_letsSome_26 (tgt := 46) rfl ?_ ?_
        · refine r_iconst dX12_letsSome_46 (v := 0) rfl ?_
          refine r_istore dX12_letsSome_47 (Nat.le_of_ble_eq_true rfl) (ls2 := [some (.ref 47), some (.ref v1), some (.int v2), some (.int v3), some (.int v4), some (.int 0), some (.int v6)]) rfl ?_
          refine r_iinc dX12_letsSome_49 (Nat.le_of_ble_eq_true rfl) rfl (v := v6 + 1) rfl (ls2 := [some (.ref 47), some (.ref v1), some (.int v2), some (.int v3), some (.int v4), some (.int 0), some (.int (v6 + 1))]) rfl ?_
          refine r_goto dX12_letsSome_52 (tgt := 6) rfl ?_
          exact ih 0 (v6 + 1) u1
        · refine r_aload_n dX12_letsSome_29 rfl ?_
          refine r_aload_n dX12_letsSome_30 rfl ?_
          refine r_iload dX12_letsSome_31 rfl ?_
          refine r_iload_n dX12_letsSome_33 rfl ?_
          refine r_iload dX12_letsSome_34 rfl ?_
          refine c_VI (As := [.ref v1, .int v6, .int v3, .int v4]) kvX12_308 rfl (by decide) (okX12_lets v1 v6 v3 v4 u1) rfl (Nat.le_of_ble_eq_true rfl) rfl dX12_letsSome_36 (fun r2 u2 => ?_)
          refine r_if_eq dX12_letsSome_39 (tgt := 46) rfl ?_ ?_
          · refine r_iconst dX12_letsSome_46 (v := 0) rfl ?_
            refine r_istore dX12_letsSome_47 (Nat.le_of_ble_eq_true rfl) (ls2 := [some (.ref 47), some (.ref v1), some (.int v2), some (.int v3), some (.int v4), some (.int 0), some (.int v6)]) rfl ?_
            refine r_iinc dX12_letsSome_49 (Nat.le_of_ble_eq_true rfl) rfl (v := v6 + 1) rfl (ls2 := [some (.ref 47), some (.ref v1), some (.int v2), some (.int v3), some (.int v4), some (.int 0), some (.int (v6 + 1))]) rfl ?_
            refine r_goto dX12_letsSome_52 (tgt := 6) rfl ?_
            exact ih 0 (v6 + 1) u2
          · refine r_iconst dX12_letsSome_42 (v := 1) rfl ?_
            refine r_goto dX12_letsSome_43 (tgt := 47) rfl ?_
            refine r_istore dX12_letsSome_47 (Nat.le_of_ble_eq_true rfl) (ls2 := [some (.ref 47), some (.ref v1), some (.int v2), some (.int v3), some (.int v4), some (.int 1), some (.int v6)]) rfl ?_
            refine r_iinc dX12_letsSome_49 (Nat.le_of_ble_eq_true rfl) rfl (v := v6 + 1) rfl (ls2 := [some (.ref 47), some (.ref v1), some (.int v2), some (.int v3), some (.int v4), some (.int 1), some (.int (v6 + 1))]) rfl ?_
            refine r_goto dX12_letsSome_52 (tgt := 6) rfl ?_
            exact ih 1 (v6 + 1) u2
def fX12_letsSome (v1 : Nat) (v2 : Int32) (v3 : Int32) (v4 : Int32) (u : US) : Option (Int32 × US) :=
  gd (okA v1 20) (fX12_letsSome_6 v1 v2 v3 v4 FU 0 0 u)
set_option maxRecDepth 20000 in
theorem sX12_letsSome (v1 : Nat) (v2 : Int32) (v3 : Int32) (v4 : Int32) (u : US) : Sim tI mX12_letsSome 4 (fX12_letsSome v1 v2 v3 v4 u) 0 [some (.ref 47), some (.ref v1), some (.int v2), some (.int v3), some (.int v4), none, none] [] u := by
  unfold fX12_letsSome
  refine r_gd (fun h1 => ?_)
  refine r_iconst dX12_letsSome_0 (v := 0) rfl ?_
  refine r_istore dX12_letsSome_1 (Nat.le_of_ble_eq_true rfl) (ls2 := [some (.ref 47), some (.ref v1), some (.int v2), some (.int v3), some (.int v4), some (.int 0), none]) rfl ?_
  refine r_iconst dX12_letsSome_3 (v := 0) rfl ?_
  refine r_istore dX12_letsSome_4 (Nat.le_of_ble_eq_true rfl) (ls2 := [some (.ref 47), some (.ref v1), some (.int v2), some (.int v3), some (.int v4), some (.int 0), some (.int 0)]) rfl ?_
  exact sX12_letsSome_6 v1 v2 v3 v4 h1 FU 0 0 u
theorem okX12_letsSome (v1 : Nat) (v2 : Int32) (v3 : Int32) (v4 : Int32) (u : US) : ∀ r, fX12_letsSome v1 v2 v3 v4 u = some r → MetC mX12_letsSome 4 [.ref 47, .ref v1, .int v2, .int v3, .int v4] u (tI r) :=
  met_of (by decide +kernel) (Nat.le_of_ble_eq_true rfl) rfl (sX12_letsSome v1 v2 v3 v4 u)
def fX12_far (v1 : Int32) (v2 : Int32) (u : US) : Option (Int32 × US) :=
  if gI u 47 4 = 0 then none else if gI u 47 4 = 0 then none else if gI u 47 4 = 0 then none else if gI u 47 4 = 0 then none else some ((if 0 ≤ ((v1 / (gI u 47 4)) - (v2 / (gI u 47 4))) then (v1 / (gI u 47 4)) - (v2 / (gI u 47 4)) else 0 - ((v1 / (gI u 47 4)) - (v2 / (gI u 47 4)))) + (if 0 ≤ ((v1 - v1 / (gI u 47 4) * (gI u 47 4)) - (v2 - v2 / (gI u 47 4) * (gI u 47 4))) then (v1 - v1 / (gI u 47 4) * (gI u 47 4)) - (v2 - v2 / (gI u 47 4) * (gI u 47 4)) else 0 - ((v1 - v1 / (gI u 47 4) * (gI u 47 4)) - (v2 - v2 / (gI u 47 4) * (gI u 47 4)))), u)
set_option maxRecDepth 20000 in
theorem sX12_far (v1 : Int32) (v2 : Int32) (u : US) : Sim tI mX12_far 5 (fX12_far v1 v2 u) 0 [some (.ref 47), some (.int v1), some (.int v2)] [] u := by
  unfold fX12_far
  refine r_iload_n dX12_far_0 rfl ?_
  refine r_aload_n dX12_far_1 rfl ?_
  refine r_get 47 4 flX12_27 rfl (v := .int (gI u 47 4)) rfl dX12_far_2 ?_
  refine r_idiv dX12_far_5 ?_
  refine r_iload_n dX12_far_6 rfl ?_
  refine r_aload_n dX12_far_7 rfl ?_
  refine r_get 47 4 flX12_27 rfl (v := .int (gI u 47 4)) rfl dX12_far_8 ?_
  refine r_idiv dX12_far_11 ?_
  refine r_isub dX12_far_12 ?_
  refine r_abs kmX12_153 ktMath_abs knMath kcMath_abs (by decide) (Nat.le_of_ble_eq_true rfl) dX12_far_13 ?_
  refine r_iload_n dX12_far_16 rfl ?_
  refine r_aload_n dX12_far_17 rfl ?_
  refine r_get 47 4 flX12_27 rfl (v := .int (gI u 47 4)) rfl dX12_far_18 ?_
  refine r_irem dX12_far_21 ?_
  refine r_iload_n dX12_far_22 rfl ?_
  refine r_aload_n dX12_far_23 rfl ?_
  refine r_get 47 4 flX12_27 rfl (v := .int (gI u 47 4)) rfl dX12_far_24 ?_
  refine r_irem dX12_far_27 ?_
  refine r_isub dX12_far_28 ?_
  refine r_abs kmX12_153 ktMath_abs knMath kcMath_abs (by decide) (Nat.le_of_ble_eq_true rfl) dX12_far_29 ?_
  refine r_iadd dX12_far_32 ?_
  exact r_ireturn rfl dX12_far_33
theorem okX12_far (v1 : Int32) (v2 : Int32) (u : US) : ∀ r, fX12_far v1 v2 u = some r → MetC mX12_far 5 [.ref 47, .int v1, .int v2] u (tI r) :=
  met_of (by decide +kernel) (Nat.le_of_ble_eq_true rfl) rfl (sX12_far v1 v2 u)
def fX12_isNear (v1 : Int32) (v2 : Int32) (u : US) : Option (Int32 × US) :=
  gd (inb v1 4) (oB (fX12_far (gA u 53 v1) v2 u) fun r1 u1 => gd (inb v1 4) ((if (gA u1 54 v1) < r1 then some (0, u1) else some (1, u1))))
set_option maxRecDepth 20000 in
theorem sX12_isNear (v1 : Int32) (v2 : Int32) (u : US) : Sim tI mX12_isNear 6 (fX12_isNear v1 v2 u) 0 [some (.ref 47), some (.int v1), some (.int v2)] [] u := by
  unfold fX12_isNear
  refine r_aload_n dX12_isNear_0 rfl ?_
  refine r_aload_n dX12_isNear_1 rfl ?_
  refine r_get 47 13 flX12_43 rfl (v := .ref 53) rfl dX12_isNear_2 ?_
  refine r_iload_n dX12_isNear_5 rfl ?_
  refine r_iald 53 rfl dX12_isNear_6 ?_
  refine r_iload_n dX12_isNear_7 rfl ?_
  refine c_VI (As := [.int (gA u 53 v1), .int v2]) kvX12_312 rfl (by decide) (okX12_far (gA u 53 v1) v2 u) rfl (Nat.le_of_ble_eq_true rfl) rfl dX12_isNear_8 (fun r1 u1 => ?_)
  refine r_aload_n dX12_isNear_11 rfl ?_
  refine r_get 47 14 flX12_46 rfl (v := .ref 54) rfl dX12_isNear_12 ?_
  refine r_iload_n dX12_isNear_15 rfl ?_
  refine r_iald 54 rfl dX12_isNear_16 ?_
  refine r_icmp_gt dX12_isNear_17 (tgt := 24) rfl ?_ ?_
  · refine r_iconst dX12_isNear_24 (v := 0) rfl ?_
    exact r_zreturn0 rfl dX12_isNear_25
  · refine r_iconst dX12_isNear_20 (v := 1) rfl ?_
    refine r_goto dX12_isNear_21 (tgt := 25) rfl ?_
    exact r_zreturn1 rfl dX12_isNear_25
theorem okX12_isNear (v1 : Int32) (v2 : Int32) (u : US) : ∀ r, fX12_isNear v1 v2 u = some r → MetC mX12_isNear 6 [.ref 47, .int v1, .int v2] u (tI r) :=
  met_of (by decide +kernel) (Nat.le_of_ble_eq_true rfl) rfl (sX12_isNear v1 v2 u)
def fX12_near_5 (v1 : Nat) (v2 : Int32) : Nat → Int32 → Int32 → US → Option (Int32 × US)
  | 0, _, _, _ => none
  | n + 1, v3, v4, u => (if (gI u 47 5) ≤ v4 then some (v3, u) else gd (inb v4 (ln v1)) (oB (fX12_isNear v2 (gA u v1 v4) u) fun r1 u1 => (if r1 = 0 then fX12_near_5 v1 v2 n (v3 ||| 0) (v4 + 1) u1 else fX12_near_5 v1 v2 n (v3 ||| (1 <<< (v4 &&& 31))) (v4 + 1) u1)))
set_option maxRecDepth 20000 in
theorem sX12_near_5 (v1 : Nat) (v2 : Int32) (h1 : okA v1 20 = true) : ∀ (n : Nat) (v3 : Int32) (v4 : Int32) (u : US), Sim tI mX12_near 7 (fX12_near_5 v1 v2 n v3 v4 u) 5 [some (.ref 47), some (.ref v1), some (.int v2), some (.int v3), some (.int v4)] [] u := by
  intro n
  induction n with
  | zero =>
    intro v3 v4 u
    rw [fX12_near_5.eq_1]
    exact r_none
  | succ n ih =>
    intro v3 v4 u
    rw [fX12_near_5.eq_2]
    refine r_iload dX12_near_5 rfl ?_
    refine r_aload_n dX12_near_7 rfl ?_
    refine r_get 47 5 flX12_140 rfl (v := .int (gI u 47 5)) rfl dX12_near_8 ?_
    refine r_icmp_ge dX12_near_11 (tgt := 43) rfl ?_ ?_
    · refine r_iload_n dX12_near_43 rfl ?_
      exact r_ireturn rfl dX12_near_44
    · refine r_iload_n dX12_near_14 rfl ?_
      refine r_aload_n dX12_near_15 rfl ?_
      refine r_iload_n dX12_near_16 rfl ?_
      refine r_aload_n dX12_near_17 rfl ?_
      refine r_iload dX12_near_18 rfl ?_
      refine r_iald v1 h1 dX12_near_20 ?_
      refine c_VI (As := [.int v2, .int (gA u v1 v4)]) kvX12_315 rfl (by decide) (okX12_isNear v2 (gA u v1 v4) u) rfl (Nat.le_of_ble_eq_true rfl) rfl dX12_near_21 (fun r1 u1 => ?_)
      refine r_if_eq dX12_near_24 (tgt := 34) rfl ?_ ?_
      · refine r_iconst dX12_near_34 (v := 0) rfl ?_
        refine r_ior dX12_near_35 ?_
        refine r_istore_n dX12_near_36 (Nat.le_of_ble_eq_true rfl) (ls2 := [some (.ref 47), some (.ref v1), some (.int v2), some (.int (v3 ||| 0)), some (.int v4)]) rfl ?_
        refine r_iinc dX12_near_37 (Nat.le_of_ble_eq_true rfl) rfl (v := v4 + 1) rfl (ls2 := [some (.ref 47), some (.ref v1), some (.int v2), some (.int (v3 ||| 0)), some (.int (v4 + 1))]) rfl ?_
        refine r_goto dX12_near_40 (tgt := 5) rfl ?_
        exact ih (v3 ||| 0) (v4 + 1) u1
      · refine r_iconst dX12_near_27 (v := 1) rfl ?_
        refine r_iload dX12_near_28 rfl ?_
        refine r_ishl dX12_near_30 ?_
        refine r_goto dX12_near_31 (tgt := 35) rfl ?_
        refine r_ior dX12_near_35 ?_
        refine r_istore_n dX12_near_36 (Nat.le_of_ble_eq_true rfl) (ls2 := [some (.ref 47), some (.ref v1), some (.int v2), some (.int (v3 ||| (1 <<< (v4 &&& 31)))), some (.int v4)]) rfl ?_
        refine r_iinc dX12_near_37 (Nat.le_of_ble_eq_true rfl) rfl (v := v4 + 1) rfl (ls2 := [some (.ref 47), some (.ref v1), some (.int v2), some (.int (v3 ||| (1 <<< (v4 &&& 31)))), some (.int (v4 + 1))]) rfl ?_
        refine r_goto dX12_near_40 (tgt := 5) rfl ?_
        exact ih (v3 ||| (1 <<< (v4 &&& 31))) (v4 + 1) u1
def fX12_near (v1 : Nat) (v2 : Int32) (u : US) : Option (Int32 × US) :=
  gd (okA v1 20) (fX12_near_5 v1 v2 FU 0 0 u)
set_option maxRecDepth 20000 in
theorem sX12_near (v1 : Nat) (v2 : Int32) (u : US) : Sim tI mX12_near 7 (fX12_near v1 v2 u) 0 [some (.ref 47), some (.ref v1), some (.int v2), none, none] [] u := by
  unfold fX12_near
  refine r_gd (fun h1 => ?_)
  refine r_iconst dX12_near_0 (v := 0) rfl ?_
  refine r_istore_n dX12_near_1 (Nat.le_of_ble_eq_true rfl) (ls2 := [some (.ref 47), some (.ref v1), some (.int v2), some (.int 0), none]) rfl ?_
  refine r_iconst dX12_near_2 (v := 0) rfl ?_
  refine r_istore dX12_near_3 (Nat.le_of_ble_eq_true rfl) (ls2 := [some (.ref 47), some (.ref v1), some (.int v2), some (.int 0), some (.int 0)]) rfl ?_
  exact sX12_near_5 v1 v2 h1 FU 0 0 u
theorem okX12_near (v1 : Nat) (v2 : Int32) (u : US) : ∀ r, fX12_near v1 v2 u = some r → MetC mX12_near 7 [.ref 47, .ref v1, .int v2] u (tI r) :=
  met_of (by decide +kernel) (Nat.le_of_ble_eq_true rfl) rfl (sX12_near v1 v2 u)
def fX12_seenBy_11 (v1 : Nat) (v2 : Int32) (v3 : Int32) : Nat → Int32 → Int32 → US → Option (Int32 × US)
  | 0, _, _, _ => none
  | n + 1, v4, v5, u => (if (gI u 47 5) ≤ v5 then some (v4, u) else oB (fX12_has v4 v5 u) fun r1 u1 => (if r1 = 0 then fX12_seenBy_11 v1 v2 v3 n (v4 &&& (-1)) (v5 + 1) u1 else gd (inb v5 8) (gd (inb v5 8) (oB (fX12_letsSome v1 v3 (gA u1 49 v5) (gA u1 50 v5) u1) fun r2 u2 => (if r2 = 0 then fX12_seenBy_11 v1 v2 v3 n (v4 &&& ((1 <<< (v5 &&& 31)) ^^^ (-1))) (v5 + 1) u2 else fX12_seenBy_11 v1 v2 v3 n (v4 &&& (-1)) (v5 + 1) u2)))))
set_option maxRecDepth 20000 in
theorem sX12_seenBy_11 (v1 : Nat) (v2 : Int32) (v3 : Int32) (h1 : okA v1 20 = true) : ∀ (n : Nat) (v4 : Int32) (v5 : Int32) (u : US), Sim tI mX12_seenBy 8 (fX12_seenBy_11 v1 v2 v3 n v4 v5 u) 11 [some (.ref 47), some (.ref v1), some (.int v2), some (.int v3), some (.int v4), some (.int v5)] [] u := by
  intro n
  induction n with
  | zero =>
    intro v4 v5 u
    rw [fX12_seenBy_11.eq_1]
    exact r_none
  | succ n ih =>
    intro v4 v5 u
    rw [fX12_seenBy_11.eq_2]
    refine r_iload dX12_seenBy_11 rfl ?_
    refine r_aload_n dX12_seenBy_13 rfl ?_
    refine r_get 47 5 flX12_140 rfl (v := .int (gI u 47 5)) rfl dX12_seenBy_14 ?_
    refine r_icmp_ge dX12_seenBy_17 (tgt := 74) rfl ?_ ?_
    · refine r_iload dX12_seenBy_74 rfl ?_
      exact r_ireturn rfl dX12_seenBy_76
    · refine r_iload dX12_seenBy_20 rfl ?_
      refine r_iload dX12_seenBy_22 rfl ?_
      refine r_iload dX12_seenBy_24 rfl ?_
      refine c_SI (As := [.int v4, .int v5]) ksX12_296 (by decide) (okX12_has v4 v5 u) rfl (Nat.le_of_ble_eq_true rfl) rfl dX12_seenBy_26 (fun r1 u1 => ?_)
      refine r_if_eq dX12_seenBy_29 (tgt := 64) rfl ?_ ?_
      · refine r_iconst dX12_seenBy_64 (v := -1) rfl ?_
        refine r_iand dX12_seenBy_65 ?_
        refine r_istore dX12_seenBy_66 (Nat.le_of_ble_eq_true rfl) (ls2 := [some (.ref 47), some (.ref v1), some (.int v2), some (.int v3), some (.int (v4 &&& (-1))), some (.int v5)]) rfl ?_
        refine r_iinc dX12_seenBy_68 (Nat.le_of_ble_eq_true rfl) rfl (v := v5 + 1) rfl (ls2 := [some (.ref 47), some (.ref v1), some (.int v2), some (.int v3), some (.int (v4 &&& (-1))), some (.int (v5 + 1))]) rfl ?_
        refine r_goto dX12_seenBy_71 (tgt := 11) rfl ?_
        exact ih (v4 &&& (-1)) (v5 + 1) u1
      · refine r_aload_n dX12_seenBy_32 rfl ?_
        refine r_aload_n dX12_seenBy_33 rfl ?_
        refine r_iload_n dX12_seenBy_34 rfl ?_
        refine r_aload_n dX12_seenBy_35 rfl ?_
        refine r_get 47 9 flX12_30 rfl (v := .ref 49) rfl dX12_seenBy_36 ?_
        refine r_iload dX12_seenBy_39 rfl ?_
        refine r_iald 49 rfl dX12_seenBy_41 ?_
        refine r_aload_n dX12_seenBy_42 rfl ?_
        refine r_get 47 10 flX12_34 rfl (v := .ref 50) rfl dX12_seenBy_43 ?_
        refine r_iload dX12_seenBy_46 rfl ?_
        refine r_iald 50 rfl dX12_seenBy_48 ?_
        refine c_VI (As := [.ref v1, .int v3, .int (gA u1 49 v5), .int (gA u1 50 v5)]) kvX12_322 rfl (by decide) (okX12_letsSome v1 v3 (gA u1 49 v5) (gA u1 50 v5) u1) rfl (Nat.le_of_ble_eq_true rfl) rfl dX12_seenBy_49 (fun r2 u2 => ?_)
        refine r_if_ne dX12_seenBy_52 (tgt := 64) rfl ?_ ?_
        · refine r_iconst dX12_seenBy_64 (v := -1) rfl ?_
          refine r_iand dX12_seenBy_65 ?_
          refine r_istore dX12_seenBy_66 (Nat.le_of_ble_eq_true rfl) (ls2 := [some (.ref 47), some (.ref v1), some (.int v2), some (.int v3), some (.int (v4 &&& (-1))), some (.int v5)]) rfl ?_
          refine r_iinc dX12_seenBy_68 (Nat.le_of_ble_eq_true rfl) rfl (v := v5 + 1) rfl (ls2 := [some (.ref 47), some (.ref v1), some (.int v2), some (.int v3), some (.int (v4 &&& (-1))), some (.int (v5 + 1))]) rfl ?_
          refine r_goto dX12_seenBy_71 (tgt := 11) rfl ?_
          exact ih (v4 &&& (-1)) (v5 + 1) u2
        · refine r_iconst dX12_seenBy_55 (v := 1) rfl ?_
          refine r_iload dX12_seenBy_56 rfl ?_
          refine r_ishl dX12_seenBy_58 ?_
          refine r_iconst dX12_seenBy_59 (v := -1) rfl ?_
          refine r_ixor dX12_seenBy_60 ?_
          refine r_goto dX12_seenBy_61 (tgt := 65) rfl ?_
          refine r_iand dX12_seenBy_65 ?_
          refine r_istore dX12_seenBy_66 (Nat.le_of_ble_eq_true rfl) (ls2 := [some (.ref 47), some (.ref v1), some (.int v2), some (.int v3), some (.int (v4 &&& ((1 <<< (v5 &&& 31)) ^^^ (-1)))), some (.int v5)]) rfl ?_
          refine r_iinc dX12_seenBy_68 (Nat.le_of_ble_eq_true rfl) rfl (v := v5 + 1) rfl (ls2 := [some (.ref 47), some (.ref v1), some (.int v2), some (.int v3), some (.int (v4 &&& ((1 <<< (v5 &&& 31)) ^^^ (-1)))), some (.int (v5 + 1))]) rfl ?_
          refine r_goto dX12_seenBy_71 (tgt := 11) rfl ?_
          exact ih (v4 &&& ((1 <<< (v5 &&& 31)) ^^^ (-1))) (v5 + 1) u2
def fX12_seenBy (v1 : Nat) (v2 : Int32) (v3 : Int32) (u : US) : Option (Int32 × US) :=
  gd (okA v1 20) (oB (fX12_near v1 v2 u) fun r1 u1 => fX12_seenBy_11 v1 v2 v3 FU r1 0 u1)
set_option maxRecDepth 20000 in
theorem sX12_seenBy (v1 : Nat) (v2 : Int32) (v3 : Int32) (u : US) : Sim tI mX12_seenBy 8 (fX12_seenBy v1 v2 v3 u) 0 [some (.ref 47), some (.ref v1), some (.int v2), some (.int v3), none, none] [] u := by
  unfold fX12_seenBy
  refine r_gd (fun h1 => ?_)
  refine r_aload_n dX12_seenBy_0 rfl ?_
  refine r_aload_n dX12_seenBy_1 rfl ?_
  refine r_iload_n dX12_seenBy_2 rfl ?_
  refine c_VI (As := [.ref v1, .int v2]) kvX12_318 rfl (by decide) (okX12_near v1 v2 u) rfl (Nat.le_of_ble_eq_true rfl) rfl dX12_seenBy_3 (fun r1 u1 => ?_)
  refine r_istore dX12_seenBy_6 (Nat.le_of_ble_eq_true rfl) (ls2 := [some (.ref 47), some (.ref v1), some (.int v2), some (.int v3), some (.int r1), none]) rfl ?_
  refine r_iconst dX12_seenBy_8 (v := 0) rfl ?_
  refine r_istore dX12_seenBy_9 (Nat.le_of_ble_eq_true rfl) (ls2 := [some (.ref 47), some (.ref v1), some (.int v2), some (.int v3), some (.int r1), some (.int 0)]) rfl ?_
  exact sX12_seenBy_11 v1 v2 v3 h1 FU r1 0 u1
theorem okX12_seenBy (v1 : Nat) (v2 : Int32) (v3 : Int32) (u : US) : ∀ r, fX12_seenBy v1 v2 v3 u = some r → MetC mX12_seenBy 8 [.ref 47, .ref v1, .int v2, .int v3] u (tI r) :=
  met_of (by decide +kernel) (Nat.le_of_ble_eq_true rfl) rfl (sX12_seenBy v1 v2 v3 u)
def fX12_adds_117 (v1 : Int32) (k54 : Int32 → Int32 → Int32 → Int32 → US → Option (Int32 × US)) (v2 : Int32) (v3 : Int32) (v5 : Int32) (s0 : Int32) (s1 : Int32) (u : US) : Option (Int32 × US) :=
  oB (fX12_flag s1 u) fun r1 u1 => k54 v2 v3 (s0 + r1) (v5 + 1) u1
set_option maxRecDepth 20000 in
theorem sX12_adds_117 (v1 : Int32) (k54 : Int32 → Int32 → Int32 → Int32 → US → Option (Int32 × US)) (hk54 : ∀ (v2 : Int32) (v3 : Int32) (v4 : Int32) (v5 : Int32) (u : US), Sim tI mX12_adds 9 (k54 v2 v3 v4 v5 u) 54 [some (.ref 47), some (.int v1), some (.int v2), some (.int v3), some (.int v4), some (.int v5), none] [] u) (v2 : Int32) (v3 : Int32) (v5 : Int32) (s0 : Int32) (s1 : Int32) (u : US) : Sim tI mX12_adds 9 (fX12_adds_117 v1 k54 v2 v3 v5 s0 s1 u) 117 [some (.ref 47), some (.int v1), some (.int v2), some (.int v3), none, some (.int v5), none] [.int s1, .int s0] u := by
  unfold fX12_adds_117
  refine c_SI (As := [.int s1]) ksX12_175 (by decide) (okX12_flag s1 u) rfl (Nat.le_of_ble_eq_true rfl) rfl dX12_adds_117 (fun r1 u1 => ?_)
  refine r_iadd dX12_adds_120 ?_
  refine r_istore dX12_adds_121 (Nat.le_of_ble_eq_true rfl) (ls2 := [some (.ref 47), some (.int v1), some (.int v2), some (.int v3), some (.int (s0 + r1)), some (.int v5), none]) rfl ?_
  refine r_iinc dX12_adds_123 (Nat.le_of_ble_eq_true rfl) rfl (v := v5 + 1) rfl (ls2 := [some (.ref 47), some (.int v1), some (.int v2), some (.int v3), some (.int (s0 + r1)), some (.int (v5 + 1)), none]) rfl ?_
  refine r_goto dX12_adds_126 (tgt := 54) rfl ?_
  exact hk54 v2 v3 (s0 + r1) (v5 + 1) u1
def fX12_adds_116 (v1 : Int32) (k54 : Int32 → Int32 → Int32 → Int32 → US → Option (Int32 × US)) (v2 : Int32) (v3 : Int32) (v5 : Int32) (s0 : Int32) (u : US) : Option (Int32 × US) :=
  fX12_adds_117 v1 k54 v2 v3 v5 s0 0 u
set_option maxRecDepth 20000 in
theorem sX12_adds_116 (v1 : Int32) (k54 : Int32 → Int32 → Int32 → Int32 → US → Option (Int32 × US)) (hk54 : ∀ (v2 : Int32) (v3 : Int32) (v4 : Int32) (v5 : Int32) (u : US), Sim tI mX12_adds 9 (k54 v2 v3 v4 v5 u) 54 [some (.ref 47), some (.int v1), some (.int v2), some (.int v3), some (.int v4), some (.int v5), none] [] u) (v2 : Int32) (v3 : Int32) (v5 : Int32) (s0 : Int32) (u : US) : Sim tI mX12_adds 9 (fX12_adds_116 v1 k54 v2 v3 v5 s0 u) 116 [some (.ref 47), some (.int v1), some (.int v2), some (.int v3), none, some (.int v5), none] [.int s0] u := by
  unfold fX12_adds_116
  refine r_iconst dX12_adds_116 (v := 0) rfl ?_
  exact sX12_adds_117 v1 k54 hk54 v2 v3 v5 s0 0 u
def fX12_adds_74 (v1 : Int32) (k54 : Int32 → Int32 → Int32 → Int32 → US → Option (Int32 × US)) (v2 : Int32) (v3 : Int32) (v4 : Int32) (v5 : Int32) (s0 : Int32) (u : US) : Option (Int32 × US) :=
  (if s0 = 0 then fX12_adds_116 v1 k54 v2 v3 v5 v4 u else oB (fX12_seenBy 55 v2 v5 u) fun r1 u1 => oB (fX12_seenBy 55 v2 (v5 ||| (1 <<< (v1 &&& 31))) u1) fun r2 u2 => (if r1 = r2 then fX12_adds_116 v1 k54 v2 v3 v5 v4 u2 else fX12_adds_117 v1 k54 v2 v3 v5 v4 1 u2))
set_option maxRecDepth 20000 in
theorem sX12_adds_74 (v1 : Int32) (k54 : Int32 → Int32 → Int32 → Int32 → US → Option (Int32 × US)) (hk54 : ∀ (v2 : Int32) (v3 : Int32) (v4 : Int32) (v5 : Int32) (u : US), Sim tI mX12_adds 9 (k54 v2 v3 v4 v5 u) 54 [some (.ref 47), some (.int v1), some (.int v2), some (.int v3), some (.int v4), some (.int v5), none] [] u) (v2 : Int32) (v3 : Int32) (v4 : Int32) (v5 : Int32) (s0 : Int32) (u : US) : Sim tI mX12_adds 9 (fX12_adds_74 v1 k54 v2 v3 v4 v5 s0 u) 74 [some (.ref 47), some (.int v1), some (.int v2), some (.int v3), some (.int v4), some (.int v5), none] [.int s0] u := by
  unfold fX12_adds_74
  refine r_istore dX12_adds_74 (Nat.le_of_ble_eq_true rfl) (ls2 := [some (.ref 47), some (.int v1), some (.int v2), some (.int v3), some (.int v4), some (.int v5), some (.int s0)]) rfl ?_
  refine r_iload dX12_adds_76 rfl ?_
  refine r_iload dX12_adds_78 rfl ?_
  refine r_if_eq dX12_adds_80 (tgt := 116) rfl ?_ ?_
  · refine r_mk [true, true, true, true, false, true, false] (ls2 := [some (.ref 47), some (.int v1), some (.int v2), some (.int v3), none, some (.int v5), none]) rfl ?_
    exact sX12_adds_116 v1 k54 hk54 v2 v3 v5 v4 u
  · refine r_aload_n dX12_adds_83 rfl ?_
    refine r_aload_n dX12_adds_84 rfl ?_
    refine r_get 47 15 flX12_49 rfl (v := .ref 55) rfl dX12_adds_85 ?_
    refine r_iload_n dX12_adds_88 rfl ?_
    refine r_iload dX12_adds_89 rfl ?_
    refine c_VI (As := [.ref 55, .int v2, .int v5]) kvX12_328 rfl (by decide) (okX12_seenBy 55 v2 v5 u) rfl (Nat.le_of_ble_eq_true rfl) rfl dX12_adds_91 (fun r1 u1 => ?_)
    refine r_aload_n dX12_adds_94 rfl ?_
    refine r_aload_n dX12_adds_95 rfl ?_
    refine r_get 47 15 flX12_49 rfl (v := .ref 55) rfl dX12_adds_96 ?_
    refine r_iload_n dX12_adds_99 rfl ?_
    refine r_iload dX12_adds_100 rfl ?_
    refine r_iconst dX12_adds_102 (v := 1) rfl ?_
    refine r_iload_n dX12_adds_103 rfl ?_
    refine r_ishl dX12_adds_104 ?_
    refine r_ior dX12_adds_105 ?_
    refine c_VI (As := [.ref 55, .int v2, .int (v5 ||| (1 <<< (v1 &&& 31)))]) kvX12_328 rfl (by decide) (okX12_seenBy 55 v2 (v5 ||| (1 <<< (v1 &&& 31))) u1) rfl (Nat.le_of_ble_eq_true rfl) rfl dX12_adds_106 (fun r2 u2 => ?_)
    refine r_icmp_eq dX12_adds_109 (tgt := 116) rfl ?_ ?_
    · refine r_mk [true, true, true, true, false, true, false] (ls2 := [some (.ref 47), some (.int v1), some (.int v2), some (.int v3), none, some (.int v5), none]) rfl ?_
      exact sX12_adds_116 v1 k54 hk54 v2 v3 v5 v4 u2
    · refine r_iconst dX12_adds_112 (v := 1) rfl ?_
      refine r_goto dX12_adds_113 (tgt := 117) rfl ?_
      refine r_mk [true, true, true, true, false, true, false] (ls2 := [some (.ref 47), some (.int v1), some (.int v2), some (.int v3), none, some (.int v5), none]) rfl ?_
      exact sX12_adds_117 v1 k54 hk54 v2 v3 v5 v4 1 u2
def fX12_adds_54 (v1 : Int32) : Nat → Int32 → Int32 → Int32 → Int32 → US → Option (Int32 × US)
  | 0, _, _, _, _, _ => none
  | n + 1, v2, v3, v4, v5, u => (if v3 < v5 then nx (sI u 47 1 0) fun u1 => oB (fJ6_bitCount_0f7a4 v3 u1) fun r2 u2 => oV (fX12_enters ((1 <<< (r2 &&& 31) : Int32).toInt64) u2) fun u3 => some (v4, u3) else (if (v5 &&& (v3 ^^^ (-1))) = 0 then fX12_adds_74 v1 (fX12_adds_54 v1 n) v2 v3 v4 v5 1 u else fX12_adds_74 v1 (fX12_adds_54 v1 n) v2 v3 v4 v5 0 u))
set_option maxRecDepth 20000 in
theorem sX12_adds_54 (v1 : Int32) : ∀ (n : Nat) (v2 : Int32) (v3 : Int32) (v4 : Int32) (v5 : Int32) (u : US), Sim tI mX12_adds 9 (fX12_adds_54 v1 n v2 v3 v4 v5 u) 54 [some (.ref 47), some (.int v1), some (.int v2), some (.int v3), some (.int v4), some (.int v5), none] [] u := by
  intro n
  induction n with
  | zero =>
    intro v2 v3 v4 v5 u
    rw [fX12_adds_54.eq_1]
    exact r_none
  | succ n ih =>
    intro v2 v3 v4 v5 u
    rw [fX12_adds_54.eq_2]
    refine r_iload dX12_adds_54 rfl ?_
    refine r_iload_n dX12_adds_56 rfl ?_
    refine r_icmp_gt dX12_adds_57 (tgt := 129) rfl ?_ ?_
    · refine r_aload_n dX12_adds_129 rfl ?_
      refine r_iconst dX12_adds_130 (v := 0) rfl ?_
      refine r_put 47 1 fpX12_15 rfl rfl dX12_adds_131 (r_nx (fun u1 => ?_))
      refine r_aload_n dX12_adds_134 rfl ?_
      refine r_iconst dX12_adds_135 (v := 1) rfl ?_
      refine r_iload_n dX12_adds_136 rfl ?_
      refine c_SI (As := [.int v3]) ksX12_300 (by decide) (okJ6_bitCount_0f7a4 v3 u1) rfl (Nat.le_of_ble_eq_true rfl) rfl dX12_adds_137 (fun r2 u2 => ?_)
      refine r_ishl dX12_adds_140 ?_
      refine r_i2l dX12_adds_141 ?_
      refine c_VV (As := [.long ((1 <<< (r2 &&& 31) : Int32).toInt64)]) kvX12_387 rfl (by decide) (okX12_enters ((1 <<< (r2 &&& 31) : Int32).toInt64) u2) rfl (Nat.le_of_ble_eq_true rfl) rfl dX12_adds_142 (fun u3 => ?_)
      refine r_iload dX12_adds_145 rfl ?_
      exact r_ireturn rfl dX12_adds_147
    · refine r_iload dX12_adds_60 rfl ?_
      refine r_iload_n dX12_adds_62 rfl ?_
      refine r_iconst dX12_adds_63 (v := -1) rfl ?_
      refine r_ixor dX12_adds_64 ?_
      refine r_iand dX12_adds_65 ?_
      refine r_if_ne dX12_adds_66 (tgt := 73) rfl ?_ ?_
      · refine r_iconst dX12_adds_73 (v := 0) rfl ?_
        exact sX12_adds_74 v1 (fX12_adds_54 v1 n) ih v2 v3 v4 v5 0 u
      · refine r_iconst dX12_adds_69 (v := 1) rfl ?_
        refine r_goto dX12_adds_70 (tgt := 74) rfl ?_
        exact sX12_adds_74 v1 (fX12_adds_54 v1 n) ih v2 v3 v4 v5 1 u
def fX12_adds (v1 : Int32) (u : US) : Option (Int32 × US) :=
  nx (sI u 47 0 0) fun u1 => oB (fX12_isPane v1 u1) fun r2 u2 => (if r2 = 0 then some ((-1), u2) else gd (inb (16 + v1) 26) ((if 0 ≤ (gA u2 55 (16 + v1)) then oB (fX12_panesOf 55 (gA u2 55 (16 + v1)) u2) fun r3 u3 => fX12_adds_54 v1 FU (gA u2 55 (16 + v1)) (r3 &&& ((1 <<< (v1 &&& 31)) ^^^ (-1))) 0 0 u3 else some ((-2), u2))))
set_option maxRecDepth 20000 in
theorem sX12_adds (v1 : Int32) (u : US) : Sim tI mX12_adds 9 (fX12_adds v1 u) 0 [some (.ref 47), some (.int v1), none, none, none, none, none] [] u := by
  unfold fX12_adds
  refine r_aload_n dX12_adds_0 rfl ?_
  refine r_iconst dX12_adds_1 (v := 0) rfl ?_
  refine r_put 47 0 fpX12_3 rfl rfl dX12_adds_2 (r_nx (fun u1 => ?_))
  refine r_aload_n dX12_adds_5 rfl ?_
  refine r_iload_n dX12_adds_6 rfl ?_
  refine c_VI (As := [.int v1]) kvX12_343 rfl (by decide) (okX12_isPane v1 u1) rfl (Nat.le_of_ble_eq_true rfl) rfl dX12_adds_7 (fun r2 u2 => ?_)
  refine r_if_ne dX12_adds_10 (tgt := 15) rfl ?_ ?_
  · refine r_aload_n dX12_adds_15 rfl ?_
    refine r_get 47 15 flX12_49 rfl (v := .ref 55) rfl dX12_adds_16 ?_
    refine r_bipush dX12_adds_19 (v := 16) rfl ?_
    refine r_iload_n dX12_adds_21 rfl ?_
    refine r_iadd dX12_adds_22 ?_
    refine r_iald 55 rfl dX12_adds_23 ?_
    refine r_istore_n dX12_adds_24 (Nat.le_of_ble_eq_true rfl) (ls2 := [some (.ref 47), some (.int v1), some (.int (gA u2 55 (16 + v1))), none, none, none, none]) rfl ?_
    refine r_iload_n dX12_adds_25 rfl ?_
    refine r_if_ge dX12_adds_26 (tgt := 32) rfl ?_ ?_
    · refine r_aload_n dX12_adds_32 rfl ?_
      refine r_aload_n dX12_adds_33 rfl ?_
      refine r_get 47 15 flX12_49 rfl (v := .ref 55) rfl dX12_adds_34 ?_
      refine r_iload_n dX12_adds_37 rfl ?_
      refine c_VI (As := [.ref 55, .int (gA u2 55 (16 + v1))]) kvX12_325 rfl (by decide) (okX12_panesOf 55 (gA u2 55 (16 + v1)) u2) rfl (Nat.le_of_ble_eq_true rfl) rfl dX12_adds_38 (fun r3 u3 => ?_)
      refine r_iconst dX12_adds_41 (v := 1) rfl ?_
      refine r_iload_n dX12_adds_42 rfl ?_
      refine r_ishl dX12_adds_43 ?_
      refine r_iconst dX12_adds_44 (v := -1) rfl ?_
      refine r_ixor dX12_adds_45 ?_
      refine r_iand dX12_adds_46 ?_
      refine r_istore_n dX12_adds_47 (Nat.le_of_ble_eq_true rfl) (ls2 := [some (.ref 47), some (.int v1), some (.int (gA u2 55 (16 + v1))), some (.int (r3 &&& ((1 <<< (v1 &&& 31)) ^^^ (-1)))), none, none, none]) rfl ?_
      refine r_iconst dX12_adds_48 (v := 0) rfl ?_
      refine r_istore dX12_adds_49 (Nat.le_of_ble_eq_true rfl) (ls2 := [some (.ref 47), some (.int v1), some (.int (gA u2 55 (16 + v1))), some (.int (r3 &&& ((1 <<< (v1 &&& 31)) ^^^ (-1)))), some (.int 0), none, none]) rfl ?_
      refine r_iconst dX12_adds_51 (v := 0) rfl ?_
      refine r_istore dX12_adds_52 (Nat.le_of_ble_eq_true rfl) (ls2 := [some (.ref 47), some (.int v1), some (.int (gA u2 55 (16 + v1))), some (.int (r3 &&& ((1 <<< (v1 &&& 31)) ^^^ (-1)))), some (.int 0), some (.int 0), none]) rfl ?_
      exact sX12_adds_54 v1 FU (gA u2 55 (16 + v1)) (r3 &&& ((1 <<< (v1 &&& 31)) ^^^ (-1))) 0 0 u3
    · refine r_bipush dX12_adds_29 (v := -2) rfl ?_
      exact r_ireturn rfl dX12_adds_31
  · refine r_iconst dX12_adds_13 (v := -1) rfl ?_
    exact r_ireturn rfl dX12_adds_14
theorem okX12_adds (v1 : Int32) (u : US) : ∀ r, fX12_adds v1 u = some r → MetC mX12_adds 9 [.ref 47, .int v1] u (tI r) :=
  met_of (by decide +kernel) (Nat.le_of_ble_eq_true rfl) rfl (sX12_adds v1 u)
def fX12_again_43 (v1 : Int32) : Nat → Int32 → US → Option (Int32 × US)
  | 0, _, _ => none
  | n + 1, v2, u => (if (26 : Int32) ≤ v2 then nx (sI u 47 30 0) fun u1 => some (1, u1) else gd (inb ((26 * v1) + v2) 78) (gd (inb v2 26) (nx (sA u 55 v2 (gA u 84 ((26 * v1) + v2))) fun u2 => fX12_again_43 v1 n (v2 + 1) u2)))
set_option maxRecDepth 20000 in
theorem sX12_again_43 (v1 : Int32) : ∀ (n : Nat) (v2 : Int32) (u : US), Sim tI mX12_again 1 (fX12_again_43 v1 n v2 u) 43 [some (.ref 47), some (.int v1), some (.int v2)] [] u := by
  intro n
  induction n with
  | zero =>
    intro v2 u
    rw [fX12_again_43.eq_1]
    exact r_none
  | succ n ih =>
    intro v2 u
    rw [fX12_again_43.eq_2]
    refine r_iload_n dX12_again_43 rfl ?_
    refine r_bipush dX12_again_44 (v := 26) rfl ?_
    refine r_icmp_ge dX12_again_46 (tgt := 72) rfl ?_ ?_
    · refine r_aload_n dX12_again_72 rfl ?_
      refine r_iconst dX12_again_73 (v := 0) rfl ?_
      refine r_put 47 30 fpX12_215 rfl rfl dX12_again_74 (r_nx (fun u1 => ?_))
      refine r_iconst dX12_again_77 (v := 1) rfl ?_
      exact r_zreturn1 rfl dX12_again_78
    · refine r_aload_n dX12_again_49 rfl ?_
      refine r_get 47 15 flX12_49 rfl (v := .ref 55) rfl dX12_again_50 ?_
      refine r_iload_n dX12_again_53 rfl ?_
      refine r_aload_n dX12_again_54 rfl ?_
      refine r_get 47 56 flX12_137 rfl (v := .ref 84) rfl dX12_again_55 ?_
      refine r_bipush dX12_again_58 (v := 26) rfl ?_
      refine r_iload_n dX12_again_60 rfl ?_
      refine r_imul dX12_again_61 ?_
      refine r_iload_n dX12_again_62 rfl ?_
      refine r_iadd dX12_again_63 ?_
      refine r_iald 84 rfl dX12_again_64 ?_
      refine r_iast 55 rfl dX12_again_65 (r_nx (fun u2 => ?_))
      refine r_iinc dX12_again_66 (Nat.le_of_ble_eq_true rfl) rfl (v := v2 + 1) rfl (ls2 := [some (.ref 47), some (.int v1), some (.int (v2 + 1))]) rfl ?_
      refine r_goto dX12_again_69 (tgt := 43) rfl ?_
      exact ih (v2 + 1) u2
def fX12_again (v1 : Int32) (u : US) : Option (Int32 × US) :=
  nx (sI u 47 0 0) fun u1 => oB (fX12_in ((v1 : Int32).toInt64) 0 2 u1) fun r2 u2 => (if r2 = 0 then some (0, u2) else gd (inb v1 3) ((if (gA u2 82 v1) = 0 then some (0, u2) else gd (inb v1 3) ((if (gA u2 83 v1) = (gI u2 47 8) then fX12_again_43 v1 FU 0 u2 else some (0, u2))))))
set_option maxRecDepth 20000 in
theorem sX12_again (v1 : Int32) (u : US) : Sim tI mX12_again 1 (fX12_again v1 u) 0 [some (.ref 47), some (.int v1), none] [] u := by
  unfold fX12_again
  refine r_aload_n dX12_again_0 rfl ?_
  refine r_iconst dX12_again_1 (v := 0) rfl ?_
  refine r_put 47 0 fpX12_3 rfl rfl dX12_again_2 (r_nx (fun u1 => ?_))
  refine r_iload_n dX12_again_5 rfl ?_
  refine r_i2l dX12_again_6 ?_
  refine r_lconst dX12_again_7 (v := 0) rfl ?_
  refine r_ldc2 dX12_again_8 kJX12_459 ?_
  refine c_SI (As := [.long ((v1 : Int32).toInt64), .long 0, .long 2]) ksX12_143 (by decide) (okX12_in ((v1 : Int32).toInt64) 0 2 u1) rfl (Nat.le_of_ble_eq_true rfl) rfl dX12_again_11 (fun r2 u2 => ?_)
  refine r_if_eq dX12_again_14 (tgt := 39) rfl ?_ ?_
  · refine r_iconst dX12_again_39 (v := 0) rfl ?_
    exact r_zreturn0 rfl dX12_again_40
  · refine r_aload_n dX12_again_17 rfl ?_
    refine r_get 47 54 flX12_131 rfl (v := .ref 82) rfl dX12_again_18 ?_
    refine r_iload_n dX12_again_21 rfl ?_
    refine r_zald 82 rfl dX12_again_22 ?_
    refine r_if_eq dX12_again_23 (tgt := 39) rfl ?_ ?_
    · refine r_iconst dX12_again_39 (v := 0) rfl ?_
      exact r_zreturn0 rfl dX12_again_40
    · refine r_aload_n dX12_again_26 rfl ?_
      refine r_get 47 55 flX12_134 rfl (v := .ref 83) rfl dX12_again_27 ?_
      refine r_iload_n dX12_again_30 rfl ?_
      refine r_iald 83 rfl dX12_again_31 ?_
      refine r_aload_n dX12_again_32 rfl ?_
      refine r_get 47 8 flX12_252 rfl (v := .int (gI u2 47 8)) rfl dX12_again_33 ?_
      refine r_icmp_eq dX12_again_36 (tgt := 41) rfl ?_ ?_
      · refine r_iconst dX12_again_41 (v := 0) rfl ?_
        refine r_istore_n dX12_again_42 (Nat.le_of_ble_eq_true rfl) (ls2 := [some (.ref 47), some (.int v1), some (.int 0)]) rfl ?_
        exact sX12_again_43 v1 FU 0 u2
      · refine r_iconst dX12_again_39 (v := 0) rfl ?_
        exact r_zreturn0 rfl dX12_again_40
theorem okX12_again (v1 : Int32) (u : US) : ∀ r, fX12_again v1 u = some r → MetC mX12_again 1 [.ref 47, .int v1] u (tI r) :=
  met_of (by decide +kernel) (Nat.le_of_ble_eq_true rfl) rfl (sX12_again v1 u)
def fX12_copies_2 : Nat → Int32 → US → Option (US)
  | 0, _, _ => none
  | n + 1, v1, u => (if (26 : Int32) ≤ v1 then some u else gd (inb v1 26) (gd (inb v1 26) (nx (sA u 56 v1 (gA u 55 v1)) fun u1 => fX12_copies_2 n (v1 + 1) u1)))
set_option maxRecDepth 20000 in
theorem sX12_copies_2 : ∀ (n : Nat) (v1 : Int32) (u : US), Sim tV mX12_copies 0 (fX12_copies_2 n v1 u) 2 [some (.ref 47), some (.int v1)] [] u := by
  intro n
  induction n with
  | zero =>
    intro v1 u
    rw [fX12_copies_2.eq_1]
    exact r_none
  | succ n ih =>
    intro v1 u
    rw [fX12_copies_2.eq_2]
    refine r_iload_n dX12_copies_2 rfl ?_
    refine r_bipush dX12_copies_3 (v := 26) rfl ?_
    refine r_icmp_ge dX12_copies_5 (tgt := 26) rfl ?_ ?_
    · exact r_return rfl dX12_copies_26
    · refine r_aload_n dX12_copies_8 rfl ?_
      refine r_get 47 16 flX12_52 rfl (v := .ref 56) rfl dX12_copies_9 ?_
      refine r_iload_n dX12_copies_12 rfl ?_
      refine r_aload_n dX12_copies_13 rfl ?_
      refine r_get 47 15 flX12_49 rfl (v := .ref 55) rfl dX12_copies_14 ?_
      refine r_iload_n dX12_copies_17 rfl ?_
      refine r_iald 55 rfl dX12_copies_18 ?_
      refine r_iast 56 rfl dX12_copies_19 (r_nx (fun u1 => ?_))
      refine r_iinc dX12_copies_20 (Nat.le_of_ble_eq_true rfl) rfl (v := v1 + 1) rfl (ls2 := [some (.ref 47), some (.int (v1 + 1))]) rfl ?_
      refine r_goto dX12_copies_23 (tgt := 2) rfl ?_
      exact ih (v1 + 1) u1
def fX12_copies (u : US) : Option (US) :=
  fX12_copies_2 FU 0 u
set_option maxRecDepth 20000 in
theorem sX12_copies (u : US) : Sim tV mX12_copies 0 (fX12_copies u) 0 [some (.ref 47), none] [] u := by
  unfold fX12_copies
  refine r_iconst dX12_copies_0 (v := 0) rfl ?_
  refine r_istore_n dX12_copies_1 (Nat.le_of_ble_eq_true rfl) (ls2 := [some (.ref 47), some (.int 0)]) rfl ?_
  exact sX12_copies_2 FU 0 u
theorem okX12_copies (u : US) : ∀ r, fX12_copies u = some r → MetC mX12_copies 0 [.ref 47] u (tV r) :=
  met_of (by decide +kernel) (Nat.le_of_ble_eq_true rfl) rfl (sX12_copies u)
def fX12_beside_51 (v1 : Int32) (v2 : Int32) (v3 : Int32) (s0 : Int32) (s1 : Int32) (u : US) : Option (Int32 × US) :=
  oB (fX12_in ((v3 : Int32).toInt64) 0 (((gI u 47 3) - 1 : Int32).toInt64) u) fun r1 u1 => (if r1 = 0 then some ((-1), u1) else oB (fX12_in ((s0 + s1 : Int32).toInt64) 0 (((gI u1 47 4) - 1 : Int32).toInt64) u1) fun r2 u2 => (if r2 = 0 then some ((-1), u2) else some (((gI u2 47 4) * v3) + (s0 + s1), u2)))
set_option maxRecDepth 20000 in
theorem sX12_beside_51 (v1 : Int32) (v2 : Int32) (v3 : Int32) (s0 : Int32) (s1 : Int32) (u : US) : Sim tI mX12_beside 1 (fX12_beside_51 v1 v2 v3 s0 s1 u) 51 [some (.ref 47), some (.int v1), some (.int v2), some (.int v3), none] [.int s1, .int s0] u := by
  unfold fX12_beside_51
  refine r_iadd dX12_beside_51 ?_
  refine r_istore dX12_beside_52 (Nat.le_of_ble_eq_true rfl) (ls2 := [some (.ref 47), some (.int v1), some (.int v2), some (.int v3), some (.int (s0 + s1))]) rfl ?_
  refine r_iload_n dX12_beside_54 rfl ?_
  refine r_i2l dX12_beside_55 ?_
  refine r_lconst dX12_beside_56 (v := 0) rfl ?_
  refine r_aload_n dX12_beside_57 rfl ?_
  refine r_get 47 3 flX12_24 rfl (v := .int (gI u 47 3)) rfl dX12_beside_58 ?_
  refine r_iconst dX12_beside_61 (v := 1) rfl ?_
  refine r_isub dX12_beside_62 ?_
  refine r_i2l dX12_beside_63 ?_
  refine c_SI (As := [.long ((v3 : Int32).toInt64), .long 0, .long (((gI u 47 3) - 1 : Int32).toInt64)]) ksX12_143 (by decide) (okX12_in ((v3 : Int32).toInt64) 0 (((gI u 47 3) - 1 : Int32).toInt64) u) rfl (Nat.le_of_ble_eq_true rfl) rfl dX12_beside_64 (fun r1 u1 => ?_)
  refine r_if_eq dX12_beside_67 (tgt := 99) rfl ?_ ?_
  · refine r_iconst dX12_beside_99 (v := -1) rfl ?_
    exact r_ireturn rfl dX12_beside_100
  · refine r_iload dX12_beside_70 rfl ?_
    refine r_i2l dX12_beside_72 ?_
    refine r_lconst dX12_beside_73 (v := 0) rfl ?_
    refine r_aload_n dX12_beside_74 rfl ?_
    refine r_get 47 4 flX12_27 rfl (v := .int (gI u1 47 4)) rfl dX12_beside_75 ?_
    refine r_iconst dX12_beside_78 (v := 1) rfl ?_
    refine r_isub dX12_beside_79 ?_
    refine r_i2l dX12_beside_80 ?_
    refine c_SI (As := [.long ((s0 + s1 : Int32).toInt64), .long 0, .long (((gI u1 47 4) - 1 : Int32).toInt64)]) ksX12_143 (by decide) (okX12_in ((s0 + s1 : Int32).toInt64) 0 (((gI u1 47 4) - 1 : Int32).toInt64) u1) rfl (Nat.le_of_ble_eq_true rfl) rfl dX12_beside_81 (fun r2 u2 => ?_)
    refine r_if_eq dX12_beside_84 (tgt := 99) rfl ?_ ?_
    · refine r_iconst dX12_beside_99 (v := -1) rfl ?_
      exact r_ireturn rfl dX12_beside_100
    · refine r_aload_n dX12_beside_87 rfl ?_
      refine r_get 47 4 flX12_27 rfl (v := .int (gI u2 47 4)) rfl dX12_beside_88 ?_
      refine r_iload_n dX12_beside_91 rfl ?_
      refine r_imul dX12_beside_92 ?_
      refine r_iload dX12_beside_93 rfl ?_
      refine r_iadd dX12_beside_95 ?_
      refine r_goto dX12_beside_96 (tgt := 100) rfl ?_
      exact r_ireturn rfl dX12_beside_100
def fX12_beside_24 (v1 : Int32) (v2 : Int32) (s0 : Int32) (s1 : Int32) (u : US) : Option (Int32 × US) :=
  if gI u 47 4 = 0 then none else (if v2 = 1 then fX12_beside_51 v1 v2 (s0 + s1) (v1 - v1 / (gI u 47 4) * (gI u 47 4)) 1 u else (if v2 = 3 then fX12_beside_51 v1 v2 (s0 + s1) (v1 - v1 / (gI u 47 4) * (gI u 47 4)) (-1) u else fX12_beside_51 v1 v2 (s0 + s1) (v1 - v1 / (gI u 47 4) * (gI u 47 4)) 0 u))
set_option maxRecDepth 20000 in
theorem sX12_beside_24 (v1 : Int32) (v2 : Int32) (s0 : Int32) (s1 : Int32) (u : US) : Sim tI mX12_beside 1 (fX12_beside_24 v1 v2 s0 s1 u) 24 [some (.ref 47), some (.int v1), some (.int v2), none, none] [.int s1, .int s0] u := by
  unfold fX12_beside_24
  refine r_iadd dX12_beside_24 ?_
  refine r_istore_n dX12_beside_25 (Nat.le_of_ble_eq_true rfl) (ls2 := [some (.ref 47), some (.int v1), some (.int v2), some (.int (s0 + s1)), none]) rfl ?_
  refine r_iload_n dX12_beside_26 rfl ?_
  refine r_aload_n dX12_beside_27 rfl ?_
  refine r_get 47 4 flX12_27 rfl (v := .int (gI u 47 4)) rfl dX12_beside_28 ?_
  refine r_irem dX12_beside_31 ?_
  refine r_iload_n dX12_beside_32 rfl ?_
  refine r_iconst dX12_beside_33 (v := 1) rfl ?_
  refine r_icmp_ne dX12_beside_34 (tgt := 41) rfl ?_ ?_
  · refine r_iload_n dX12_beside_41 rfl ?_
    refine r_iconst dX12_beside_42 (v := 3) rfl ?_
    refine r_icmp_ne dX12_beside_43 (tgt := 50) rfl ?_ ?_
    · refine r_iconst dX12_beside_50 (v := 0) rfl ?_
      exact sX12_beside_51 v1 v2 (s0 + s1) (v1 - v1 / (gI u 47 4) * (gI u 47 4)) 0 u
    · refine r_iconst dX12_beside_46 (v := -1) rfl ?_
      refine r_goto dX12_beside_47 (tgt := 51) rfl ?_
      exact sX12_beside_51 v1 v2 (s0 + s1) (v1 - v1 / (gI u 47 4) * (gI u 47 4)) (-1) u
  · refine r_iconst dX12_beside_37 (v := 1) rfl ?_
    refine r_goto dX12_beside_38 (tgt := 51) rfl ?_
    exact sX12_beside_51 v1 v2 (s0 + s1) (v1 - v1 / (gI u 47 4) * (gI u 47 4)) 1 u
def fX12_beside (v1 : Int32) (v2 : Int32) (u : US) : Option (Int32 × US) :=
  if gI u 47 4 = 0 then none else (if v2 = 2 then fX12_beside_24 v1 v2 (v1 / (gI u 47 4)) 1 u else (if v2 = 0 then fX12_beside_24 v1 v2 (v1 / (gI u 47 4)) (-1) u else fX12_beside_24 v1 v2 (v1 / (gI u 47 4)) 0 u))
set_option maxRecDepth 20000 in
theorem sX12_beside (v1 : Int32) (v2 : Int32) (u : US) : Sim tI mX12_beside 1 (fX12_beside v1 v2 u) 0 [some (.ref 47), some (.int v1), some (.int v2), none, none] [] u := by
  unfold fX12_beside
  refine r_iload_n dX12_beside_0 rfl ?_
  refine r_aload_n dX12_beside_1 rfl ?_
  refine r_get 47 4 flX12_27 rfl (v := .int (gI u 47 4)) rfl dX12_beside_2 ?_
  refine r_idiv dX12_beside_5 ?_
  refine r_iload_n dX12_beside_6 rfl ?_
  refine r_iconst dX12_beside_7 (v := 2) rfl ?_
  refine r_icmp_ne dX12_beside_8 (tgt := 15) rfl ?_ ?_
  · refine r_iload_n dX12_beside_15 rfl ?_
    refine r_if_ne dX12_beside_16 (tgt := 23) rfl ?_ ?_
    · refine r_iconst dX12_beside_23 (v := 0) rfl ?_
      exact sX12_beside_24 v1 v2 (v1 / (gI u 47 4)) 0 u
    · refine r_iconst dX12_beside_19 (v := -1) rfl ?_
      refine r_goto dX12_beside_20 (tgt := 24) rfl ?_
      exact sX12_beside_24 v1 v2 (v1 / (gI u 47 4)) (-1) u
  · refine r_iconst dX12_beside_11 (v := 1) rfl ?_
    refine r_goto dX12_beside_12 (tgt := 24) rfl ?_
    exact sX12_beside_24 v1 v2 (v1 / (gI u 47 4)) 1 u
theorem okX12_beside (v1 : Int32) (v2 : Int32) (u : US) : ∀ r, fX12_beside v1 v2 u = some r → MetC mX12_beside 1 [.ref 47, .int v1, .int v2] u (tI r) :=
  met_of (by decide +kernel) (Nat.le_of_ble_eq_true rfl) rfl (sX12_beside v1 v2 u)
def fX12_hourGoes_46 (v1 : Nat) (k2 : Int32 → US → Option (US)) (v2 : Int32) (v4 : Int32) (s1 : Int32) (s2 : Int32) (u : US) : Option (US) :=
  gd (inb s1 (ln v1)) (nx (sA u v1 s1 s2) fun u1 => (if 0 ≤ v4 then gd (inb v2 (ln v1)) (nx (sA u1 v1 v2 v4) fun u2 => k2 (v2 + 1) u2) else gd (inb v2 (ln v1)) (gd (inb v2 (ln v1)) (nx (sA u1 v1 v2 (gA u1 v1 v2)) fun u3 => k2 (v2 + 1) u3))))
set_option maxRecDepth 20000 in
theorem sX12_hourGoes_46 (v1 : Nat) (h1 : okA v1 20 = true) (k2 : Int32 → US → Option (US)) (hk2 : ∀ (v2 : Int32) (u : US), Sim tV mX12_hourGoes 2 (k2 v2 u) 2 [some (.ref 47), some (.ref v1), some (.int v2), none, none] [] u) (v2 : Int32) (v4 : Int32) (s1 : Int32) (s2 : Int32) (u : US) : Sim tV mX12_hourGoes 2 (fX12_hourGoes_46 v1 k2 v2 v4 s1 s2 u) 46 [some (.ref 47), some (.ref v1), some (.int v2), none, some (.int v4)] [.int s2, .int s1, .ref v1] u := by
  unfold fX12_hourGoes_46
  refine r_iast v1 h1 dX12_hourGoes_46 (r_nx (fun u1 => ?_))
  refine r_aload_n dX12_hourGoes_47 rfl ?_
  refine r_iload_n dX12_hourGoes_48 rfl ?_
  refine r_iload dX12_hourGoes_49 rfl ?_
  refine r_if_ge dX12_hourGoes_51 (tgt := 60) rfl ?_ ?_
  · refine r_iload dX12_hourGoes_60 rfl ?_
    refine r_iast v1 h1 dX12_hourGoes_62 (r_nx (fun u2 => ?_))
    refine r_iinc dX12_hourGoes_63 (Nat.le_of_ble_eq_true rfl) rfl (v := v2 + 1) rfl (ls2 := [some (.ref 47), some (.ref v1), some (.int (v2 + 1)), none, some (.int v4)]) rfl ?_
    refine r_goto dX12_hourGoes_66 (tgt := 2) rfl ?_
    refine r_mk [true, true, true, false, false] (ls2 := [some (.ref 47), some (.ref v1), some (.int (v2 + 1)), none, none]) rfl ?_
    exact hk2 (v2 + 1) u2
  · refine r_aload_n dX12_hourGoes_54 rfl ?_
    refine r_iload_n dX12_hourGoes_55 rfl ?_
    refine r_iald v1 h1 dX12_hourGoes_56 ?_
    refine r_goto dX12_hourGoes_57 (tgt := 62) rfl ?_
    refine r_iast v1 h1 dX12_hourGoes_62 (r_nx (fun u3 => ?_))
    refine r_iinc dX12_hourGoes_63 (Nat.le_of_ble_eq_true rfl) rfl (v := v2 + 1) rfl (ls2 := [some (.ref 47), some (.ref v1), some (.int (v2 + 1)), none, some (.int v4)]) rfl ?_
    refine r_goto dX12_hourGoes_66 (tgt := 2) rfl ?_
    refine r_mk [true, true, true, false, false] (ls2 := [some (.ref 47), some (.ref v1), some (.int (v2 + 1)), none, none]) rfl ?_
    exact hk2 (v2 + 1) u3
def fX12_hourGoes_2 (v1 : Nat) : Nat → Int32 → US → Option (US)
  | 0, _, _ => none
  | n + 1, v2, u => (if (gI u 47 5) ≤ v2 then gd (inb 25 (ln v1)) (gd (inb 25 (ln v1)) (nx (sA u v1 25 ((gA u v1 25) + 1)) fun u1 => some u1)) else gd (inb (8 + v2) (ln v1)) (gd (inb v2 (ln v1)) (oB (fX12_beside (gA u v1 v2) (gA u v1 (8 + v2)) u) fun r2 u2 => (if 0 ≤ r2 then fX12_hourGoes_46 v1 (fX12_hourGoes_2 v1 n) v2 r2 (8 + v2) (gA u v1 (8 + v2)) u2 else if (4 : Int32) = 0 then none else fX12_hourGoes_46 v1 (fX12_hourGoes_2 v1 n) v2 r2 (8 + v2) (((gA u v1 (8 + v2)) + 2) - ((gA u v1 (8 + v2)) + 2) / 4 * 4) u2))))
set_option maxRecDepth 20000 in
theorem sX12_hourGoes_2 (v1 : Nat) (h1 : okA v1 20 = true) : ∀ (n : Nat) (v2 : Int32) (u : US), Sim tV mX12_hourGoes 2 (fX12_hourGoes_2 v1 n v2 u) 2 [some (.ref 47), some (.ref v1), some (.int v2), none, none] [] u := by
  intro n
  induction n with
  | zero =>
    intro v2 u
    rw [fX12_hourGoes_2.eq_1]
    exact r_none
  | succ n ih =>
    intro v2 u
    rw [fX12_hourGoes_2.eq_2]
    refine r_iload_n dX12_hourGoes_2 rfl ?_
    refine r_aload_n dX12_hourGoes_3 rfl ?_
    refine r_get 47 5 flX12_140 rfl (v := .int (gI u 47 5)) rfl dX12_hourGoes_4 ?_
    refine r_icmp_ge dX12_hourGoes_7 (tgt := 69) rfl ?_ ?_
    · refine r_aload_n dX12_hourGoes_69 rfl ?_
      refine r_bipush dX12_hourGoes_70 (v := 25) rfl ?_
      refine r_dup2 dX12_hourGoes_72 rfl rfl ?_
      refine r_iald v1 h1 dX12_hourGoes_73 ?_
      refine r_iconst dX12_hourGoes_74 (v := 1) rfl ?_
      refine r_iadd dX12_hourGoes_75 ?_
      refine r_iast v1 h1 dX12_hourGoes_76 (r_nx (fun u1 => ?_))
      exact r_return rfl dX12_hourGoes_77
    · refine r_aload_n dX12_hourGoes_10 rfl ?_
      refine r_bipush dX12_hourGoes_11 (v := 8) rfl ?_
      refine r_iload_n dX12_hourGoes_13 rfl ?_
      refine r_iadd dX12_hourGoes_14 ?_
      refine r_iald v1 h1 dX12_hourGoes_15 ?_
      refine r_istore_n dX12_hourGoes_16 (Nat.le_of_ble_eq_true rfl) (ls2 := [some (.ref 47), some (.ref v1), some (.int v2), some (.int (gA u v1 (8 + v2))), none]) rfl ?_
      refine r_aload_n dX12_hourGoes_17 rfl ?_
      refine r_aload_n dX12_hourGoes_18 rfl ?_
      refine r_iload_n dX12_hourGoes_19 rfl ?_
      refine r_iald v1 h1 dX12_hourGoes_20 ?_
      refine r_iload_n dX12_hourGoes_21 rfl ?_
      refine c_VI (As := [.int (gA u v1 v2), .int (gA u v1 (8 + v2))]) kvX12_357 rfl (by decide) (okX12_beside (gA u v1 v2) (gA u v1 (8 + v2)) u) rfl (Nat.le_of_ble_eq_true rfl) rfl dX12_hourGoes_22 (fun r2 u2 => ?_)
      refine r_istore dX12_hourGoes_25 (Nat.le_of_ble_eq_true rfl) (ls2 := [some (.ref 47), some (.ref v1), some (.int v2), some (.int (gA u v1 (8 + v2))), some (.int r2)]) rfl ?_
      refine r_aload_n dX12_hourGoes_27 rfl ?_
      refine r_bipush dX12_hourGoes_28 (v := 8) rfl ?_
      refine r_iload_n dX12_hourGoes_30 rfl ?_
      refine r_iadd dX12_hourGoes_31 ?_
      refine r_iload dX12_hourGoes_32 rfl ?_
      refine r_if_ge dX12_hourGoes_34 (tgt := 45) rfl ?_ ?_
      · refine r_iload_n dX12_hourGoes_45 rfl ?_
        refine r_mk [true, true, true, false, true] (ls2 := [some (.ref 47), some (.ref v1), some (.int v2), none, some (.int r2)]) rfl ?_
        exact sX12_hourGoes_46 v1 h1 (fX12_hourGoes_2 v1 n) ih v2 r2 (8 + v2) (gA u v1 (8 + v2)) u2
      · refine r_iload_n dX12_hourGoes_37 rfl ?_
        refine r_iconst dX12_hourGoes_38 (v := 2) rfl ?_
        refine r_iadd dX12_hourGoes_39 ?_
        refine r_iconst dX12_hourGoes_40 (v := 4) rfl ?_
        refine r_irem dX12_hourGoes_41 ?_
        refine r_goto dX12_hourGoes_42 (tgt := 46) rfl ?_
        refine r_mk [true, true, true, false, true] (ls2 := [some (.ref 47), some (.ref v1), some (.int v2), none, some (.int r2)]) rfl ?_
        exact sX12_hourGoes_46 v1 h1 (fX12_hourGoes_2 v1 n) ih v2 r2 (8 + v2) (((gA u v1 (8 + v2)) + 2) - ((gA u v1 (8 + v2)) + 2) / 4 * 4) u2
def fX12_hourGoes (v1 : Nat) (u : US) : Option (US) :=
  gd (okA v1 20) (fX12_hourGoes_2 v1 FU 0 u)
set_option maxRecDepth 20000 in
theorem sX12_hourGoes (v1 : Nat) (u : US) : Sim tV mX12_hourGoes 2 (fX12_hourGoes v1 u) 0 [some (.ref 47), some (.ref v1), none, none, none] [] u := by
  unfold fX12_hourGoes
  refine r_gd (fun h1 => ?_)
  refine r_iconst dX12_hourGoes_0 (v := 0) rfl ?_
  refine r_istore_n dX12_hourGoes_1 (Nat.le_of_ble_eq_true rfl) (ls2 := [some (.ref 47), some (.ref v1), some (.int 0), none, none]) rfl ?_
  exact sX12_hourGoes_2 v1 h1 FU 0 u
theorem okX12_hourGoes (v1 : Nat) (u : US) : ∀ r, fX12_hourGoes v1 u = some r → MetC mX12_hourGoes 2 [.ref 47, .ref v1] u (tV r) :=
  met_of (by decide +kernel) (Nat.le_of_ble_eq_true rfl) rfl (sX12_hourGoes v1 u)
def fX12_goesOn_2 (v1 : Nat) (v2 : Int32) : Nat → Int32 → US → Option (US)
  | 0, _, _ => none
  | n + 1, v3, u => (if v2 ≤ v3 then some u else oV (fX12_hourGoes v1 u) fun u1 => fX12_goesOn_2 v1 v2 n (v3 + 1) u1)
set_option maxRecDepth 20000 in
theorem sX12_goesOn_2 (v1 : Nat) (v2 : Int32) (h1 : okA v1 20 = true) : ∀ (n : Nat) (v3 : Int32) (u : US), Sim tV mX12_goesOn 3 (fX12_goesOn_2 v1 v2 n v3 u) 2 [some (.ref 47), some (.ref v1), some (.int v2), some (.int v3)] [] u := by
  intro n
  induction n with
  | zero =>
    intro v3 u
    rw [fX12_goesOn_2.eq_1]
    exact r_none
  | succ n ih =>
    intro v3 u
    rw [fX12_goesOn_2.eq_2]
    refine r_iload_n dX12_goesOn_2 rfl ?_
    refine r_iload_n dX12_goesOn_3 rfl ?_
    refine r_icmp_ge dX12_goesOn_4 (tgt := 18) rfl ?_ ?_
    · exact r_return rfl dX12_goesOn_18
    · refine r_aload_n dX12_goesOn_7 rfl ?_
      refine r_aload_n dX12_goesOn_8 rfl ?_
      refine c_VV (As := [.ref v1]) kvX12_360 rfl (by decide) (okX12_hourGoes v1 u) rfl (Nat.le_of_ble_eq_true rfl) rfl dX12_goesOn_9 (fun u1 => ?_)
      refine r_iinc dX12_goesOn_12 (Nat.le_of_ble_eq_true rfl) rfl (v := v3 + 1) rfl (ls2 := [some (.ref 47), some (.ref v1), some (.int v2), some (.int (v3 + 1))]) rfl ?_
      refine r_goto dX12_goesOn_15 (tgt := 2) rfl ?_
      exact ih (v3 + 1) u1
def fX12_goesOn (v1 : Nat) (v2 : Int32) (u : US) : Option (US) :=
  gd (okA v1 20) (fX12_goesOn_2 v1 v2 FU 0 u)
set_option maxRecDepth 20000 in
theorem sX12_goesOn (v1 : Nat) (v2 : Int32) (u : US) : Sim tV mX12_goesOn 3 (fX12_goesOn v1 v2 u) 0 [some (.ref 47), some (.ref v1), some (.int v2), none] [] u := by
  unfold fX12_goesOn
  refine r_gd (fun h1 => ?_)
  refine r_iconst dX12_goesOn_0 (v := 0) rfl ?_
  refine r_istore_n dX12_goesOn_1 (Nat.le_of_ble_eq_true rfl) (ls2 := [some (.ref 47), some (.ref v1), some (.int v2), some (.int 0)]) rfl ?_
  exact sX12_goesOn_2 v1 v2 h1 FU 0 u
theorem okX12_goesOn (v1 : Nat) (v2 : Int32) (u : US) : ∀ r, fX12_goesOn v1 v2 u = some r → MetC mX12_goesOn 3 [.ref 47, .ref v1, .int v2] u (tV r) :=
  met_of (by decide +kernel) (Nat.le_of_ble_eq_true rfl) rfl (sX12_goesOn v1 v2 u)
def fX12_isRoom (v1 : Int32) (u : US) : Option (Int32 × US) :=
  oB (fX12_in ((v1 : Int32).toInt64) 0 (((gI u 47 7) - 1 : Int32).toInt64) u) fun r1 u1 => gd (isB r1) (some (r1, u1))
set_option maxRecDepth 20000 in
theorem sX12_isRoom (v1 : Int32) (u : US) : Sim tI mX12_isRoom 1 (fX12_isRoom v1 u) 0 [some (.ref 47), some (.int v1)] [] u := by
  unfold fX12_isRoom
  refine r_iload_n dX12_isRoom_0 rfl ?_
  refine r_i2l dX12_isRoom_1 ?_
  refine r_lconst dX12_isRoom_2 (v := 0) rfl ?_
  refine r_aload_n dX12_isRoom_3 rfl ?_
  refine r_get 47 7 flX12_150 rfl (v := .int (gI u 47 7)) rfl dX12_isRoom_4 ?_
  refine r_iconst dX12_isRoom_7 (v := 1) rfl ?_
  refine r_isub dX12_isRoom_8 ?_
  refine r_i2l dX12_isRoom_9 ?_
  refine c_SI (As := [.long ((v1 : Int32).toInt64), .long 0, .long (((gI u 47 7) - 1 : Int32).toInt64)]) ksX12_143 (by decide) (okX12_in ((v1 : Int32).toInt64) 0 (((gI u 47 7) - 1 : Int32).toInt64) u) rfl (Nat.le_of_ble_eq_true rfl) rfl dX12_isRoom_10 (fun r1 u1 => ?_)
  exact r_zreturn rfl dX12_isRoom_13
theorem okX12_isRoom (v1 : Int32) (u : US) : ∀ r, fX12_isRoom v1 u = some r → MetC mX12_isRoom 1 [.ref 47, .int v1] u (tI r) :=
  met_of (by decide +kernel) (Nat.le_of_ble_eq_true rfl) rfl (sX12_isRoom v1 u)
def fX12_seen (v1 : Nat) (v2 : Int32) (u : US) : Option (Int32 × US) :=
  gd (okA v1 20) (oB (fX12_panesOf v1 v2 u) fun r1 u1 => oB (fX12_seenBy v1 v2 r1 u1) fun r2 u2 => some (r2, u2))
set_option maxRecDepth 20000 in
theorem sX12_seen (v1 : Nat) (v2 : Int32) (u : US) : Sim tI mX12_seen 9 (fX12_seen v1 v2 u) 0 [some (.ref 47), some (.ref v1), some (.int v2)] [] u := by
  unfold fX12_seen
  refine r_gd (fun h1 => ?_)
  refine r_aload_n dX12_seen_0 rfl ?_
  refine r_aload_n dX12_seen_1 rfl ?_
  refine r_iload_n dX12_seen_2 rfl ?_
  refine r_aload_n dX12_seen_3 rfl ?_
  refine r_aload_n dX12_seen_4 rfl ?_
  refine r_iload_n dX12_seen_5 rfl ?_
  refine c_VI (As := [.ref v1, .int v2]) kvX12_325 rfl (by decide) (okX12_panesOf v1 v2 u) rfl (Nat.le_of_ble_eq_true rfl) rfl dX12_seen_6 (fun r1 u1 => ?_)
  refine c_VI (As := [.ref v1, .int v2, .int r1]) kvX12_328 rfl (by decide) (okX12_seenBy v1 v2 r1 u1) rfl (Nat.le_of_ble_eq_true rfl) rfl dX12_seen_9 (fun r2 u2 => ?_)
  exact r_ireturn rfl dX12_seen_12
theorem okX12_seen (v1 : Nat) (v2 : Int32) (u : US) : ∀ r, fX12_seen v1 v2 u = some r → MetC mX12_seen 9 [.ref 47, .ref v1, .int v2] u (tI r) :=
  met_of (by decide +kernel) (Nat.le_of_ble_eq_true rfl) rfl (sX12_seen v1 v2 u)
def fX12_ahead_91 (v1 : Int32) (v2 : Int32) (v3 : Int32) (s1 : Int64) (u : US) : Option (Int32 × US) :=
  oV (fX12_enters s1 u) fun u1 => some (v3, u1)
set_option maxRecDepth 20000 in
theorem sX12_ahead_91 (v1 : Int32) (v2 : Int32) (v3 : Int32) (s1 : Int64) (u : US) : Sim tI mX12_ahead 10 (fX12_ahead_91 v1 v2 v3 s1 u) 91 [some (.ref 47), some (.int v1), some (.int v2), some (.int v3)] [.long s1, .ref 47] u := by
  unfold fX12_ahead_91
  refine c_VV (As := [.long s1]) kvX12_387 rfl (by decide) (okX12_enters s1 u) rfl (Nat.le_of_ble_eq_true rfl) rfl dX12_ahead_91 (fun u1 => ?_)
  refine r_iload_n dX12_ahead_94 rfl ?_
  exact r_ireturn rfl dX12_ahead_95
def fX12_ahead (v1 : Int32) (v2 : Int32) (u : US) : Option (Int32 × US) :=
  nx (sI u 47 0 0) fun u1 => oB (fX12_isRoom v1 u1) fun r2 u2 => (if r2 = 0 then some ((-1), u2) else oB (fX12_in ((v2 : Int32).toInt64) 0 99 u2) fun r3 u3 => (if r3 = 0 then some ((-1), u3) else oV (fX12_copies u3) fun u4 => oV (fX12_goesOn 56 v2 u4) fun u5 => oB (fX12_seen 56 v1 u5) fun r6 u6 => nx (sI u6 47 1 0) fun u7 => oB (fJ6_bitCount_0f7a4 r6 u7) fun r8 u8 => oV (fX12_enters ((r8 : Int32).toInt64) u8) fun u9 => oB (fX12_panesOf 56 v1 u9) fun r10 u10 => (if r10 = 0 then fX12_ahead_91 v1 v2 r6 0 u10 else oB (fX12_near 56 v1 u10) fun r11 u11 => fX12_ahead_91 v1 v2 r6 ((r11 : Int32).toInt64) u11)))
set_option maxRecDepth 20000 in
theorem sX12_ahead (v1 : Int32) (v2 : Int32) (u : US) : Sim tI mX12_ahead 10 (fX12_ahead v1 v2 u) 0 [some (.ref 47), some (.int v1), some (.int v2), none] [] u := by
  unfold fX12_ahead
  refine r_aload_n dX12_ahead_0 rfl ?_
  refine r_iconst dX12_ahead_1 (v := 0) rfl ?_
  refine r_put 47 0 fpX12_3 rfl rfl dX12_ahead_2 (r_nx (fun u1 => ?_))
  refine r_aload_n dX12_ahead_5 rfl ?_
  refine r_iload_n dX12_ahead_6 rfl ?_
  refine c_VI (As := [.int v1]) kvX12_346 rfl (by decide) (okX12_isRoom v1 u1) rfl (Nat.le_of_ble_eq_true rfl) rfl dX12_ahead_7 (fun r2 u2 => ?_)
  refine r_if_eq dX12_ahead_10 (tgt := 25) rfl ?_ ?_
  · refine r_iconst dX12_ahead_25 (v := -1) rfl ?_
    exact r_ireturn rfl dX12_ahead_26
  · refine r_iload_n dX12_ahead_13 rfl ?_
    refine r_i2l dX12_ahead_14 ?_
    refine r_lconst dX12_ahead_15 (v := 0) rfl ?_
    refine r_ldc2 dX12_ahead_16 kJX12_405 ?_
    refine c_SI (As := [.long ((v2 : Int32).toInt64), .long 0, .long 99]) ksX12_143 (by decide) (okX12_in ((v2 : Int32).toInt64) 0 99 u2) rfl (Nat.le_of_ble_eq_true rfl) rfl dX12_ahead_19 (fun r3 u3 => ?_)
    refine r_if_ne dX12_ahead_22 (tgt := 27) rfl ?_ ?_
    · refine r_aload_n dX12_ahead_27 rfl ?_
      refine c_VV (As := []) kvX12_407 rfl (by decide) (okX12_copies u3) rfl (Nat.le_of_ble_eq_true rfl) rfl dX12_ahead_28 (fun u4 => ?_)
      refine r_aload_n dX12_ahead_31 rfl ?_
      refine r_aload_n dX12_ahead_32 rfl ?_
      refine r_get 47 16 flX12_52 rfl (v := .ref 56) rfl dX12_ahead_33 ?_
      refine r_iload_n dX12_ahead_36 rfl ?_
      refine c_VV (As := [.ref 56, .int v2]) kvX12_396 rfl (by decide) (okX12_goesOn 56 v2 u4) rfl (Nat.le_of_ble_eq_true rfl) rfl dX12_ahead_37 (fun u5 => ?_)
      refine r_aload_n dX12_ahead_40 rfl ?_
      refine r_aload_n dX12_ahead_41 rfl ?_
      refine r_get 47 16 flX12_52 rfl (v := .ref 56) rfl dX12_ahead_42 ?_
      refine r_iload_n dX12_ahead_45 rfl ?_
      refine c_VI (As := [.ref 56, .int v1]) kvX12_340 rfl (by decide) (okX12_seen 56 v1 u5) rfl (Nat.le_of_ble_eq_true rfl) rfl dX12_ahead_46 (fun r6 u6 => ?_)
      refine r_istore_n dX12_ahead_49 (Nat.le_of_ble_eq_true rfl) (ls2 := [some (.ref 47), some (.int v1), some (.int v2), some (.int r6)]) rfl ?_
      refine r_aload_n dX12_ahead_50 rfl ?_
      refine r_iconst dX12_ahead_51 (v := 0) rfl ?_
      refine r_put 47 1 fpX12_15 rfl rfl dX12_ahead_52 (r_nx (fun u7 => ?_))
      refine r_aload_n dX12_ahead_55 rfl ?_
      refine r_iload_n dX12_ahead_56 rfl ?_
      refine c_SI (As := [.int r6]) ksX12_300 (by decide) (okJ6_bitCount_0f7a4 r6 u7) rfl (Nat.le_of_ble_eq_true rfl) rfl dX12_ahead_57 (fun r8 u8 => ?_)
      refine r_i2l dX12_ahead_60 ?_
      refine c_VV (As := [.long ((r8 : Int32).toInt64)]) kvX12_387 rfl (by decide) (okX12_enters ((r8 : Int32).toInt64) u8) rfl (Nat.le_of_ble_eq_true rfl) rfl dX12_ahead_61 (fun u9 => ?_)
      refine r_aload_n dX12_ahead_64 rfl ?_
      refine r_aload_n dX12_ahead_65 rfl ?_
      refine r_aload_n dX12_ahead_66 rfl ?_
      refine r_get 47 16 flX12_52 rfl (v := .ref 56) rfl dX12_ahead_67 ?_
      refine r_iload_n dX12_ahead_70 rfl ?_
      refine c_VI (As := [.ref 56, .int v1]) kvX12_325 rfl (by decide) (okX12_panesOf 56 v1 u9) rfl (Nat.le_of_ble_eq_true rfl) rfl dX12_ahead_71 (fun r10 u10 => ?_)
      refine r_if_ne dX12_ahead_74 (tgt := 81) rfl ?_ ?_
      · refine r_aload_n dX12_ahead_81 rfl ?_
        refine r_aload_n dX12_ahead_82 rfl ?_
        refine r_get 47 16 flX12_52 rfl (v := .ref 56) rfl dX12_ahead_83 ?_
        refine r_iload_n dX12_ahead_86 rfl ?_
        refine c_VI (As := [.ref 56, .int v1]) kvX12_318 rfl (by decide) (okX12_near 56 v1 u10) rfl (Nat.le_of_ble_eq_true rfl) rfl dX12_ahead_87 (fun r11 u11 => ?_)
        refine r_i2l dX12_ahead_90 ?_
        exact sX12_ahead_91 v1 v2 r6 ((r11 : Int32).toInt64) u11
      · refine r_lconst dX12_ahead_77 (v := 0) rfl ?_
        refine r_goto dX12_ahead_78 (tgt := 91) rfl ?_
        exact sX12_ahead_91 v1 v2 r6 0 u10
    · refine r_iconst dX12_ahead_25 (v := -1) rfl ?_
      exact r_ireturn rfl dX12_ahead_26
theorem okX12_ahead (v1 : Int32) (v2 : Int32) (u : US) : ∀ r, fX12_ahead v1 v2 u = some r → MetC mX12_ahead 10 [.ref 47, .int v1, .int v2] u (tI r) :=
  met_of (by decide +kernel) (Nat.le_of_ble_eq_true rfl) rfl (sX12_ahead v1 v2 u)
def fX12_all (v0 : Int32) (u : US) : Option (Int32 × US) :=
  some ((1 <<< (v0 &&& 31)) - 1, u)
set_option maxRecDepth 20000 in
theorem sX12_all (v0 : Int32) (u : US) : Sim tI mX12_all 0 (fX12_all v0 u) 0 [some (.int v0)] [] u := by
  unfold fX12_all
  refine r_iconst dX12_all_0 (v := 1) rfl ?_
  refine r_iload_n dX12_all_1 rfl ?_
  refine r_ishl dX12_all_2 ?_
  refine r_iconst dX12_all_3 (v := 1) rfl ?_
  refine r_isub dX12_all_4 ?_
  exact r_ireturn rfl dX12_all_5
theorem okX12_all (v0 : Int32) (u : US) : ∀ r, fX12_all v0 u = some r → MetC mX12_all 0 [.int v0] u (tI r) :=
  met_of (by decide +kernel) (Nat.le_of_ble_eq_true rfl) rfl (sX12_all v0 u)
def fX12_among_2 (v1 : Nat) : Nat → Int32 → US → Option (Int32 × US)
  | 0, _, _ => none
  | n + 1, v2, u => (if (nI (lenS.getD (v1 - 100) 0)) ≤ v2 then some ((-1), u) else (if (gI u 47 20) ≤ (gI u 47 19) then some ((-1), u) else gd (inb v2 (lenS.getD (v1 - 100) 0)) (gd (inb (gI u 47 19) 80) ((if ((bytS.getD (v1 - 100) []).getD (v2 : Int32).toNatClampNeg 0) = (gA u 57 (gI u 47 19)) then some (v2, u) else fX12_among_2 v1 n (v2 + 1) u)))))
set_option maxRecDepth 20000 in
theorem sX12_among_2 (v1 : Nat) (h1 : isStr v1 = true) : ∀ (n : Nat) (v2 : Int32) (u : US), Sim tI mX12_among 5 (fX12_among_2 v1 n v2 u) 2 [some (.ref 47), some (.ref v1), some (.int v2)] [] u := by
  intro n
  induction n with
  | zero =>
    intro v2 u
    rw [fX12_among_2.eq_1]
    exact r_none
  | succ n ih =>
    intro v2 u
    rw [fX12_among_2.eq_2]
    refine r_iload_n dX12_among_2 rfl ?_
    refine r_aload_n dX12_among_3 rfl ?_
    refine r_slen v1 h1 kmX12_183 (by decide) (Nat.le_of_ble_eq_true rfl) dX12_among_4 ?_
    refine r_icmp_ge dX12_among_7 (tgt := 46) rfl ?_ ?_
    · refine r_iconst dX12_among_46 (v := -1) rfl ?_
      exact r_ireturn rfl dX12_among_47
    · refine r_aload_n dX12_among_10 rfl ?_
      refine r_get 47 19 flX12_162 rfl (v := .int (gI u 47 19)) rfl dX12_among_11 ?_
      refine r_aload_n dX12_among_14 rfl ?_
      refine r_get 47 20 flX12_172 rfl (v := .int (gI u 47 20)) rfl dX12_among_15 ?_
      refine r_icmp_ge dX12_among_18 (tgt := 46) rfl ?_ ?_
      · refine r_iconst dX12_among_46 (v := -1) rfl ?_
        exact r_ireturn rfl dX12_among_47
      · refine r_aload_n dX12_among_21 rfl ?_
        refine r_iload_n dX12_among_22 rfl ?_
        refine r_char v1 h1 kmX12_189 (by decide) (Nat.le_of_ble_eq_true rfl) dX12_among_23 ?_
        refine r_aload_n dX12_among_26 rfl ?_
        refine r_get 47 17 flX12_55 rfl (v := .ref 57) rfl dX12_among_27 ?_
        refine r_aload_n dX12_among_30 rfl ?_
        refine r_get 47 19 flX12_162 rfl (v := .int (gI u 47 19)) rfl dX12_among_31 ?_
        refine r_iald 57 rfl dX12_among_34 ?_
        refine r_icmp_ne dX12_among_35 (tgt := 40) rfl ?_ ?_
        · refine r_iinc dX12_among_40 (Nat.le_of_ble_eq_true rfl) rfl (v := v2 + 1) rfl (ls2 := [some (.ref 47), some (.ref v1), some (.int (v2 + 1))]) rfl ?_
          refine r_goto dX12_among_43 (tgt := 2) rfl ?_
          exact ih (v2 + 1) u
        · refine r_iload_n dX12_among_38 rfl ?_
          exact r_ireturn rfl dX12_among_39
def fX12_among (v1 : Nat) (u : US) : Option (Int32 × US) :=
  gd (isStr v1) (fX12_among_2 v1 FU 0 u)
set_option maxRecDepth 20000 in
theorem sX12_among (v1 : Nat) (u : US) : Sim tI mX12_among 5 (fX12_among v1 u) 0 [some (.ref 47), some (.ref v1), none] [] u := by
  unfold fX12_among
  refine r_gd (fun h1 => ?_)
  refine r_iconst dX12_among_0 (v := 0) rfl ?_
  refine r_istore_n dX12_among_1 (Nat.le_of_ble_eq_true rfl) (ls2 := [some (.ref 47), some (.ref v1), some (.int 0)]) rfl ?_
  exact sX12_among_2 v1 h1 FU 0 u
theorem okX12_among (v1 : Nat) (u : US) : ∀ r, fX12_among v1 u = some r → MetC mX12_among 5 [.ref 47, .ref v1] u (tI r) :=
  met_of (by decide +kernel) (Nat.le_of_ble_eq_true rfl) rfl (sX12_among v1 u)
def fX12_breaks (v1 : Nat) (v2 : Int32) (u : US) : Option (Int32 × US) :=
  gd (okA v1 20) (oB (fX12_isPane v2 u) fun r1 u1 => (if r1 = 0 then some ((-1), u1) else gd (inb 24 (ln v1)) (oB (fX12_has (gA u1 v1 24) v2 u1) fun r2 u2 => (if r2 = 0 then gd (inb 24 (ln v1)) (gd (inb 24 (ln v1)) (nx (sA u2 v1 24 ((gA u2 v1 24) ||| (1 <<< (v2 &&& 31)))) fun u3 => gd (inb 24 (ln v1)) (oB (fJ6_bitCount_0f7a4 (gA u3 v1 24) u3) fun r4 u4 => some (r4, u4)))) else some ((-2), u2)))))
set_option maxRecDepth 20000 in
theorem sX12_breaks (v1 : Nat) (v2 : Int32) (u : US) : Sim tI mX12_breaks 2 (fX12_breaks v1 v2 u) 0 [some (.ref 47), some (.ref v1), some (.int v2)] [] u := by
  unfold fX12_breaks
  refine r_gd (fun h1 => ?_)
  refine r_aload_n dX12_breaks_0 rfl ?_
  refine r_iload_n dX12_breaks_1 rfl ?_
  refine c_VI (As := [.int v2]) kvX12_343 rfl (by decide) (okX12_isPane v2 u) rfl (Nat.le_of_ble_eq_true rfl) rfl dX12_breaks_2 (fun r1 u1 => ?_)
  refine r_if_ne dX12_breaks_5 (tgt := 10) rfl ?_ ?_
  · refine r_aload_n dX12_breaks_10 rfl ?_
    refine r_bipush dX12_breaks_11 (v := 24) rfl ?_
    refine r_iald v1 h1 dX12_breaks_13 ?_
    refine r_iload_n dX12_breaks_14 rfl ?_
    refine c_SI (As := [.int (gA u1 v1 24), .int v2]) ksX12_296 (by decide) (okX12_has (gA u1 v1 24) v2 u1) rfl (Nat.le_of_ble_eq_true rfl) rfl dX12_breaks_15 (fun r2 u2 => ?_)
    refine r_if_eq dX12_breaks_18 (tgt := 24) rfl ?_ ?_
    · refine r_aload_n dX12_breaks_24 rfl ?_
      refine r_bipush dX12_breaks_25 (v := 24) rfl ?_
      refine r_dup2 dX12_breaks_27 rfl rfl ?_
      refine r_iald v1 h1 dX12_breaks_28 ?_
      refine r_iconst dX12_breaks_29 (v := 1) rfl ?_
      refine r_iload_n dX12_breaks_30 rfl ?_
      refine r_ishl dX12_breaks_31 ?_
      refine r_ior dX12_breaks_32 ?_
      refine r_iast v1 h1 dX12_breaks_33 (r_nx (fun u3 => ?_))
      refine r_aload_n dX12_breaks_34 rfl ?_
      refine r_bipush dX12_breaks_35 (v := 24) rfl ?_
      refine r_iald v1 h1 dX12_breaks_37 ?_
      refine c_SI (As := [.int (gA u3 v1 24)]) ksX12_300 (by decide) (okJ6_bitCount_0f7a4 (gA u3 v1 24) u3) rfl (Nat.le_of_ble_eq_true rfl) rfl dX12_breaks_38 (fun r4 u4 => ?_)
      exact r_ireturn rfl dX12_breaks_41
    · refine r_bipush dX12_breaks_21 (v := -2) rfl ?_
      exact r_ireturn rfl dX12_breaks_23
  · refine r_iconst dX12_breaks_8 (v := -1) rfl ?_
    exact r_ireturn rfl dX12_breaks_9
theorem okX12_breaks (v1 : Nat) (v2 : Int32) (u : US) : ∀ r, fX12_breaks v1 v2 u = some r → MetC mX12_breaks 2 [.ref 47, .ref v1, .int v2] u (tI r) :=
  met_of (by decide +kernel) (Nat.le_of_ble_eq_true rfl) rfl (sX12_breaks v1 v2 u)
def fX12_puts_21 (v1 : Int32) : Nat → Int32 → US → Option (Int32 × US)
  | 0, _, _ => none
  | n + 1, v2, u => (if (390 : Int32) ≤ v2 then nx (sI u 47 30 ((gI u 47 30) - 1)) fun u1 => some (v1, u1) else gd (inb (v2 + 26) 416) (gd (inb v2 416) (nx (sA u 63 v2 (gA u 63 (v2 + 26))) fun u2 => fX12_puts_21 v1 n (v2 + 1) u2)))
set_option maxRecDepth 20000 in
theorem sX12_puts_21 (v1 : Int32) : ∀ (n : Nat) (v2 : Int32) (u : US), Sim tI mX12_puts 0 (fX12_puts_21 v1 n v2 u) 21 [some (.ref 47), some (.int v1), some (.int v2)] [] u := by
  intro n
  induction n with
  | zero =>
    intro v2 u
    rw [fX12_puts_21.eq_1]
    exact r_none
  | succ n ih =>
    intro v2 u
    rw [fX12_puts_21.eq_2]
    refine r_iload_n dX12_puts_21 rfl ?_
    refine r_sipush dX12_puts_22 (v := 390) rfl ?_
    refine r_icmp_ge dX12_puts_25 (tgt := 49) rfl ?_ ?_
    · refine r_aload_n dX12_puts_49 rfl ?_
      refine r_dup dX12_puts_50 rfl ?_
      refine r_get 47 30 flX12_215 rfl (v := .int (gI u 47 30)) rfl dX12_puts_51 ?_
      refine r_iconst dX12_puts_54 (v := 1) rfl ?_
      refine r_isub dX12_puts_55 ?_
      refine r_put 47 30 fpX12_215 rfl rfl dX12_puts_56 (r_nx (fun u1 => ?_))
      refine r_iload_n dX12_puts_59 rfl ?_
      exact r_ireturn rfl dX12_puts_60
    · refine r_aload_n dX12_puts_28 rfl ?_
      refine r_get 47 31 flX12_73 rfl (v := .ref 63) rfl dX12_puts_29 ?_
      refine r_iload_n dX12_puts_32 rfl ?_
      refine r_aload_n dX12_puts_33 rfl ?_
      refine r_get 47 31 flX12_73 rfl (v := .ref 63) rfl dX12_puts_34 ?_
      refine r_iload_n dX12_puts_37 rfl ?_
      refine r_bipush dX12_puts_38 (v := 26) rfl ?_
      refine r_iadd dX12_puts_40 ?_
      refine r_iald 63 rfl dX12_puts_41 ?_
      refine r_iast 63 rfl dX12_puts_42 (r_nx (fun u2 => ?_))
      refine r_iinc dX12_puts_43 (Nat.le_of_ble_eq_true rfl) rfl (v := v2 + 1) rfl (ls2 := [some (.ref 47), some (.int v1), some (.int (v2 + 1))]) rfl ?_
      refine r_goto dX12_puts_46 (tgt := 21) rfl ?_
      exact ih (v2 + 1) u2
def fX12_puts (v1 : Int32) (u : US) : Option (Int32 × US) :=
  nx (sI u 47 30 ((gI u 47 30) + 1)) fun u1 => (if (gI u1 47 30) ≤ 15 then some (v1, u1) else fX12_puts_21 v1 FU 0 u1)
set_option maxRecDepth 20000 in
theorem sX12_puts (v1 : Int32) (u : US) : Sim tI mX12_puts 0 (fX12_puts v1 u) 0 [some (.ref 47), some (.int v1), none] [] u := by
  unfold fX12_puts
  refine r_aload_n dX12_puts_0 rfl ?_
  refine r_dup dX12_puts_1 rfl ?_
  refine r_get 47 30 flX12_215 rfl (v := .int (gI u 47 30)) rfl dX12_puts_2 ?_
  refine r_iconst dX12_puts_5 (v := 1) rfl ?_
  refine r_iadd dX12_puts_6 ?_
  refine r_put 47 30 fpX12_215 rfl rfl dX12_puts_7 (r_nx (fun u1 => ?_))
  refine r_aload_n dX12_puts_10 rfl ?_
  refine r_get 47 30 flX12_215 rfl (v := .int (gI u1 47 30)) rfl dX12_puts_11 ?_
  refine r_bipush dX12_puts_14 (v := 15) rfl ?_
  refine r_icmp_le dX12_puts_16 (tgt := 59) rfl ?_ ?_
  · refine r_iload_n dX12_puts_59 rfl ?_
    exact r_ireturn rfl dX12_puts_60
  · refine r_iconst dX12_puts_19 (v := 0) rfl ?_
    refine r_istore_n dX12_puts_20 (Nat.le_of_ble_eq_true rfl) (ls2 := [some (.ref 47), some (.int v1), some (.int 0)]) rfl ?_
    exact sX12_puts_21 v1 FU 0 u1
theorem okX12_puts (v1 : Int32) (u : US) : ∀ r, fX12_puts v1 u = some r → MetC mX12_puts 0 [.ref 47, .int v1] u (tI r) :=
  met_of (by decide +kernel) (Nat.le_of_ble_eq_true rfl) rfl (sX12_puts v1 u)
def fX12_counted (v1 : Int32) (u : US) : Option (Int32 × US) :=
  (if 0 ≤ v1 then oB (fX12_puts v1 u) fun r1 u1 => some (r1, u1) else some (v1, u))
set_option maxRecDepth 20000 in
theorem sX12_counted (v1 : Int32) (u : US) : Sim tI mX12_counted 1 (fX12_counted v1 u) 0 [some (.ref 47), some (.int v1)] [] u := by
  unfold fX12_counted
  refine r_iload_n dX12_counted_0 rfl ?_
  refine r_if_ge dX12_counted_1 (tgt := 8) rfl ?_ ?_
  · refine r_aload_n dX12_counted_8 rfl ?_
    refine r_iload_n dX12_counted_9 rfl ?_
    refine c_VI (As := [.int v1]) kvX12_354 rfl (by decide) (okX12_puts v1 u) rfl (Nat.le_of_ble_eq_true rfl) rfl dX12_counted_10 (fun r1 u1 => ?_)
    exact r_ireturn rfl dX12_counted_13
  · refine r_iload_n dX12_counted_4 rfl ?_
    refine r_goto dX12_counted_5 (tgt := 13) rfl ?_
    exact r_ireturn rfl dX12_counted_13
theorem okX12_counted (v1 : Int32) (u : US) : ∀ r, fX12_counted v1 u = some r → MetC mX12_counted 1 [.ref 47, .int v1] u (tI r) :=
  met_of (by decide +kernel) (Nat.le_of_ble_eq_true rfl) rfl (sX12_counted v1 u)
def fX12_putsBy_2 : Nat → Int32 → US → Option (US)
  | 0, _, _ => none
  | n + 1, v1, u => (if (26 : Int32) ≤ v1 then some u else gd (inb v1 26) (gd (inb ((26 * (gI u 47 30)) + v1) 416) (nx (sA u 63 ((26 * (gI u 47 30)) + v1) (gA u 55 v1)) fun u1 => fX12_putsBy_2 n (v1 + 1) u1)))
set_option maxRecDepth 20000 in
theorem sX12_putsBy_2 : ∀ (n : Nat) (v1 : Int32) (u : US), Sim tV mX12_putsBy 0 (fX12_putsBy_2 n v1 u) 2 [some (.ref 47), some (.int v1)] [] u := by
  intro n
  induction n with
  | zero =>
    intro v1 u
    rw [fX12_putsBy_2.eq_1]
    exact r_none
  | succ n ih =>
    intro v1 u
    rw [fX12_putsBy_2.eq_2]
    refine r_iload_n dX12_putsBy_2 rfl ?_
    refine r_bipush dX12_putsBy_3 (v := 26) rfl ?_
    refine r_icmp_ge dX12_putsBy_5 (tgt := 34) rfl ?_ ?_
    · exact r_return rfl dX12_putsBy_34
    · refine r_aload_n dX12_putsBy_8 rfl ?_
      refine r_get 47 31 flX12_73 rfl (v := .ref 63) rfl dX12_putsBy_9 ?_
      refine r_bipush dX12_putsBy_12 (v := 26) rfl ?_
      refine r_aload_n dX12_putsBy_14 rfl ?_
      refine r_get 47 30 flX12_215 rfl (v := .int (gI u 47 30)) rfl dX12_putsBy_15 ?_
      refine r_imul dX12_putsBy_18 ?_
      refine r_iload_n dX12_putsBy_19 rfl ?_
      refine r_iadd dX12_putsBy_20 ?_
      refine r_aload_n dX12_putsBy_21 rfl ?_
      refine r_get 47 15 flX12_49 rfl (v := .ref 55) rfl dX12_putsBy_22 ?_
      refine r_iload_n dX12_putsBy_25 rfl ?_
      refine r_iald 55 rfl dX12_putsBy_26 ?_
      refine r_iast 63 rfl dX12_putsBy_27 (r_nx (fun u1 => ?_))
      refine r_iinc dX12_putsBy_28 (Nat.le_of_ble_eq_true rfl) rfl (v := v1 + 1) rfl (ls2 := [some (.ref 47), some (.int (v1 + 1))]) rfl ?_
      refine r_goto dX12_putsBy_31 (tgt := 2) rfl ?_
      exact ih (v1 + 1) u1
def fX12_putsBy (u : US) : Option (US) :=
  fX12_putsBy_2 FU 0 u
set_option maxRecDepth 20000 in
theorem sX12_putsBy (u : US) : Sim tV mX12_putsBy 0 (fX12_putsBy u) 0 [some (.ref 47), none] [] u := by
  unfold fX12_putsBy
  refine r_iconst dX12_putsBy_0 (v := 0) rfl ?_
  refine r_istore_n dX12_putsBy_1 (Nat.le_of_ble_eq_true rfl) (ls2 := [some (.ref 47), some (.int 0)]) rfl ?_
  exact sX12_putsBy_2 FU 0 u
theorem okX12_putsBy (u : US) : ∀ r, fX12_putsBy u = some r → MetC mX12_putsBy 0 [.ref 47] u (tV r) :=
  met_of (by decide +kernel) (Nat.le_of_ble_eq_true rfl) rfl (sX12_putsBy u)
def fX12_ball (v1 : Int32) (u : US) : Option (Int32 × US) :=
  nx (sI u 47 0 0) fun u1 => oV (fX12_putsBy u1) fun u2 => oB (fX12_breaks 55 v1 u2) fun r3 u3 => oB (fX12_counted r3 u3) fun r4 u4 => some (r4, u4)
set_option maxRecDepth 20000 in
theorem sX12_ball (v1 : Int32) (u : US) : Sim tI mX12_ball 3 (fX12_ball v1 u) 0 [some (.ref 47), some (.int v1)] [] u := by
  unfold fX12_ball
  refine r_aload_n dX12_ball_0 rfl ?_
  refine r_iconst dX12_ball_1 (v := 0) rfl ?_
  refine r_put 47 0 fpX12_3 rfl rfl dX12_ball_2 (r_nx (fun u1 => ?_))
  refine r_aload_n dX12_ball_5 rfl ?_
  refine c_VV (As := []) kvX12_367 rfl (by decide) (okX12_putsBy u1) rfl (Nat.le_of_ble_eq_true rfl) rfl dX12_ball_6 (fun u2 => ?_)
  refine r_aload_n dX12_ball_9 rfl ?_
  refine r_aload_n dX12_ball_10 rfl ?_
  refine r_aload_n dX12_ball_11 rfl ?_
  refine r_get 47 15 flX12_49 rfl (v := .ref 55) rfl dX12_ball_12 ?_
  refine r_iload_n dX12_ball_15 rfl ?_
  refine c_VI (As := [.ref 55, .int v1]) kvX12_379 rfl (by decide) (okX12_breaks 55 v1 u2) rfl (Nat.le_of_ble_eq_true rfl) rfl dX12_ball_16 (fun r3 u3 => ?_)
  refine c_VI (As := [.int r3]) kvX12_373 rfl (by decide) (okX12_counted r3 u3) rfl (Nat.le_of_ble_eq_true rfl) rfl dX12_ball_19 (fun r4 u4 => ?_)
  exact r_ireturn rfl dX12_ball_22
theorem okX12_ball (v1 : Int32) (u : US) : ∀ r, fX12_ball v1 u = some r → MetC mX12_ball 3 [.ref 47, .int v1] u (tI r) :=
  met_of (by decide +kernel) (Nat.le_of_ble_eq_true rfl) rfl (sX12_ball v1 u)
def GX12_common (gX12_common : Int64 → Int64 → US → Option (Int64 × US)) (v0 : Int64) (v2 : Int64) (u : US) : Option (Int64 × US) :=
  (if (lg_cmp v2 0) = 0 then some (v0, u) else if v2 = 0 then none else oB (gX12_common v2 (v0 - v0 / v2 * v2) u) fun r1 u1 => some (r1, u1))
set_option maxRecDepth 20000 in
theorem sX12_common {dd : Nat} (gX12_common : Int64 → Int64 → US → Option (Int64 × US)) (hgX12_common : ∀ (v0 : Int64) (v2 : Int64) (u : US), ∀ r, gX12_common v0 v2 u = some r → MetC mX12_common dd [.long v0, .long v2] u (tJ r)) (hD : 3 ≤ dd) (v0 : Int64) (v2 : Int64) (u : US) : Sim tJ mX12_common (dd + 1) (GX12_common gX12_common v0 v2 u) 0 [some (.long v0), none, some (.long v2), none] [] u := by
  unfold GX12_common
  refine r_lload_n dX12_common_0 rfl ?_
  refine r_lconst dX12_common_1 (v := 0) rfl ?_
  refine r_lcmp dX12_common_2 ?_
  refine r_if_ne dX12_common_3 (tgt := 10) rfl ?_ ?_
  · refine r_lload_n dX12_common_10 rfl ?_
    refine r_lload_n dX12_common_11 rfl ?_
    refine r_lload_n dX12_common_12 rfl ?_
    refine r_lrem dX12_common_13 ?_
    refine c_SJ (As := [.long v2, .long (v0 - v0 / v2 * v2)]) ksX12_7 (by omega) (hgX12_common v2 (v0 - v0 / v2 * v2) u) rfl (Nat.le_of_ble_eq_true rfl) rfl dX12_common_14 (fun r1 u1 => ?_)
    exact r_lreturn rfl dX12_common_17
  · refine r_lload_n dX12_common_6 rfl ?_
    refine r_goto dX12_common_7 (tgt := 17) rfl ?_
    exact r_lreturn rfl dX12_common_17
theorem okX12_common {dd : Nat} (gX12_common : Int64 → Int64 → US → Option (Int64 × US)) (hgX12_common : ∀ (v0 : Int64) (v2 : Int64) (u : US), ∀ r, gX12_common v0 v2 u = some r → MetC mX12_common dd [.long v0, .long v2] u (tJ r)) (hD : 3 ≤ dd) (v0 : Int64) (v2 : Int64) (u : US) : ∀ r, GX12_common gX12_common v0 v2 u = some r → MetC mX12_common (dd + 1) [.long v0, .long v2] u (tJ r) :=
  met_of (by decide +kernel) (Nat.le_of_ble_eq_true rfl) rfl (sX12_common gX12_common hgX12_common hD v0 v2 u)
def fX12_common : Nat → Int64 → Int64 → US → Option (Int64 × US)
  | 0 => fun _ _ _ => none
  | n + 1 => GX12_common (fX12_common n)
theorem ok_X12_common : ∀ (n : Nat) (v0 : Int64) (v2 : Int64) (u : US), ∀ r, fX12_common n v0 v2 u = some r → MetC mX12_common (3 + n * 1) [.long v0, .long v2] u (tJ r) := by
  intro n
  induction n with
  | zero => intro v0 v2 u r h; cases h
  | succ n ih =>
    intro v0 v2 u r h
    have := okX12_common (dd := 3 + n * 1) (fX12_common n) ih (by omega) v0 v2 u r h
    rw [show 3 + (n + 1) * 1 = 3 + n * 1 + 1 by omega]
    exact this
def fX12_isThing (v1 : Int32) (u : US) : Option (Int32 × US) :=
  oB (fX12_in ((v1 : Int32).toInt64) 0 (((gI u 47 5) - 1 : Int32).toInt64) u) fun r1 u1 => gd (isB r1) (some (r1, u1))
set_option maxRecDepth 20000 in
theorem sX12_isThing (v1 : Int32) (u : US) : Sim tI mX12_isThing 1 (fX12_isThing v1 u) 0 [some (.ref 47), some (.int v1)] [] u := by
  unfold fX12_isThing
  refine r_iload_n dX12_isThing_0 rfl ?_
  refine r_i2l dX12_isThing_1 ?_
  refine r_lconst dX12_isThing_2 (v := 0) rfl ?_
  refine r_aload_n dX12_isThing_3 rfl ?_
  refine r_get 47 5 flX12_140 rfl (v := .int (gI u 47 5)) rfl dX12_isThing_4 ?_
  refine r_iconst dX12_isThing_7 (v := 1) rfl ?_
  refine r_isub dX12_isThing_8 ?_
  refine r_i2l dX12_isThing_9 ?_
  refine c_SI (As := [.long ((v1 : Int32).toInt64), .long 0, .long (((gI u 47 5) - 1 : Int32).toInt64)]) ksX12_143 (by decide) (okX12_in ((v1 : Int32).toInt64) 0 (((gI u 47 5) - 1 : Int32).toInt64) u) rfl (Nat.le_of_ble_eq_true rfl) rfl dX12_isThing_10 (fun r1 u1 => ?_)
  exact r_zreturn rfl dX12_isThing_13
theorem okX12_isThing (v1 : Int32) (u : US) : ∀ r, fX12_isThing v1 u = some r → MetC mX12_isThing 1 [.ref 47, .int v1] u (tI r) :=
  met_of (by decide +kernel) (Nat.le_of_ble_eq_true rfl) rfl (sX12_isThing v1 u)
def fX12_balls_142 (v1 : Int32) (v2 : Int32) (v3 : Int32) (v6 : Int64) (s0 : Int64) (u : US) : Option (Int32 × US) :=
  oB (fX12_common 100 s0 v6 u) fun r1 u1 => nx (sI u1 47 1 0) fun u2 => if r1 = 0 then none else oV (fX12_enters (s0 / r1) u2) fun u3 => if r1 = 0 then none else oV (fX12_enters (v6 / r1) u3) fun u4 => some (0, u4)
set_option maxRecDepth 20000 in
theorem sX12_balls_142 (v1 : Int32) (v2 : Int32) (v3 : Int32) (v6 : Int64) (s0 : Int64) (u : US) : Sim tI mX12_balls 401 (fX12_balls_142 v1 v2 v3 v6 s0 u) 142 [some (.ref 47), some (.int v1), some (.int v2), some (.int v3), none, none, some (.long v6), none, none, none, none, none, none] [.long s0] u := by
  unfold fX12_balls_142
  refine r_lstore dX12_balls_142 (Nat.le_of_ble_eq_true rfl) (ls2 := [some (.ref 47), some (.int v1), some (.int v2), some (.int v3), none, none, some (.long v6), none, none, some (.long s0), none, none, none]) rfl ?_
  refine r_lload dX12_balls_144 rfl ?_
  refine r_lload dX12_balls_146 rfl ?_
  refine c_SJ (As := [.long s0, .long v6]) ksX12_7 (by decide) (ok_X12_common 100 s0 v6 u) rfl (Nat.le_of_ble_eq_true rfl) rfl dX12_balls_148 (fun r1 u1 => ?_)
  refine r_lstore dX12_balls_151 (Nat.le_of_ble_eq_true rfl) (ls2 := [some (.ref 47), some (.int v1), some (.int v2), some (.int v3), none, none, some (.long v6), none, none, some (.long s0), none, some (.long r1), none]) rfl ?_
  refine r_aload_n dX12_balls_153 rfl ?_
  refine r_iconst dX12_balls_154 (v := 0) rfl ?_
  refine r_put 47 1 fpX12_15 rfl rfl dX12_balls_155 (r_nx (fun u2 => ?_))
  refine r_aload_n dX12_balls_158 rfl ?_
  refine r_lload dX12_balls_159 rfl ?_
  refine r_lload dX12_balls_161 rfl ?_
  refine r_ldiv dX12_balls_163 ?_
  refine c_VV (As := [.long (s0 / r1)]) kvX12_387 rfl (by decide) (okX12_enters (s0 / r1) u2) rfl (Nat.le_of_ble_eq_true rfl) rfl dX12_balls_164 (fun u3 => ?_)
  refine r_aload_n dX12_balls_167 rfl ?_
  refine r_lload dX12_balls_168 rfl ?_
  refine r_lload dX12_balls_170 rfl ?_
  refine r_ldiv dX12_balls_172 ?_
  refine c_VV (As := [.long (v6 / r1)]) kvX12_387 rfl (by decide) (okX12_enters (v6 / r1) u3) rfl (Nat.le_of_ble_eq_true rfl) rfl dX12_balls_173 (fun u4 => ?_)
  refine r_iconst dX12_balls_176 (v := 0) rfl ?_
  exact r_ireturn rfl dX12_balls_177
def fX12_balls_65 (v1 : Int32) (v2 : Int32) (v3 : Int32) : Nat → Int64 → Int64 → Int32 → US → Option (Int32 × US)
  | 0, _, _, _, _ => none
  | n + 1, v4, v6, v8, u => (if v8 ≤ 0 then oB (fX12_seen 55 v1 u) fun r1 u1 => oB (fX12_has r1 v2 u1) fun r2 u2 => gd (inb v2 26) (oB (fX12_isNear v1 (gA u2 55 v2) u2) fun r3 u3 => (if r3 = 0 then fX12_balls_142 v1 v2 v3 v6 0 u3 else (if r2 = 0 then fX12_balls_142 v1 v2 v3 v6 (v6 - v4) u3 else fX12_balls_142 v1 v2 v3 v6 v6 u3))) else fX12_balls_65 v1 v2 v3 n (v4 * ((10 - v3 : Int32).toInt64)) (v6 * 10) (v8 + (-1)) u)
set_option maxRecDepth 20000 in
theorem sX12_balls_65 (v1 : Int32) (v2 : Int32) (v3 : Int32) : ∀ (n : Nat) (v4 : Int64) (v6 : Int64) (v8 : Int32) (u : US), Sim tI mX12_balls 401 (fX12_balls_65 v1 v2 v3 n v4 v6 v8 u) 65 [some (.ref 47), some (.int v1), some (.int v2), some (.int v3), some (.long v4), none, some (.long v6), none, some (.int v8), none, none, none, none] [] u := by
  intro n
  induction n with
  | zero =>
    intro v4 v6 v8 u
    rw [fX12_balls_65.eq_1]
    exact r_none
  | succ n ih =>
    intro v4 v6 v8 u
    rw [fX12_balls_65.eq_2]
    refine r_iload dX12_balls_65 rfl ?_
    refine r_if_le dX12_balls_67 (tgt := 94) rfl ?_ ?_
    · refine r_aload_n dX12_balls_94 rfl ?_
      refine r_aload_n dX12_balls_95 rfl ?_
      refine r_get 47 15 flX12_49 rfl (v := .ref 55) rfl dX12_balls_96 ?_
      refine r_iload_n dX12_balls_99 rfl ?_
      refine c_VI (As := [.ref 55, .int v1]) kvX12_340 rfl (by decide) (okX12_seen 55 v1 u) rfl (Nat.le_of_ble_eq_true rfl) rfl dX12_balls_100 (fun r1 u1 => ?_)
      refine r_iload_n dX12_balls_103 rfl ?_
      refine c_SI (As := [.int r1, .int v2]) ksX12_296 (by decide) (okX12_has r1 v2 u1) rfl (Nat.le_of_ble_eq_true rfl) rfl dX12_balls_104 (fun r2 u2 => ?_)
      refine r_istore dX12_balls_107 (Nat.le_of_ble_eq_true rfl) (ls2 := [some (.ref 47), some (.int v1), some (.int v2), some (.int v3), some (.long v4), none, some (.long v6), none, some (.int r2), none, none, none, none]) rfl ?_
      refine r_aload_n dX12_balls_109 rfl ?_
      refine r_iload_n dX12_balls_110 rfl ?_
      refine r_aload_n dX12_balls_111 rfl ?_
      refine r_get 47 15 flX12_49 rfl (v := .ref 55) rfl dX12_balls_112 ?_
      refine r_iload_n dX12_balls_115 rfl ?_
      refine r_iald 55 rfl dX12_balls_116 ?_
      refine c_VI (As := [.int v1, .int (gA u2 55 v2)]) kvX12_315 rfl (by decide) (okX12_isNear v1 (gA u2 55 v2) u2) rfl (Nat.le_of_ble_eq_true rfl) rfl dX12_balls_117 (fun r3 u3 => ?_)
      refine r_if_ne dX12_balls_120 (tgt := 127) rfl ?_ ?_
      · refine r_iload dX12_balls_127 rfl ?_
        refine r_if_eq dX12_balls_129 (tgt := 137) rfl ?_ ?_
        · refine r_lload dX12_balls_137 rfl ?_
          refine r_lload dX12_balls_139 rfl ?_
          refine r_lsub dX12_balls_141 ?_
          refine r_mk [true, true, true, true, false, false, true, false, false, false, false, false, false] (ls2 := [some (.ref 47), some (.int v1), some (.int v2), some (.int v3), none, none, some (.long v6), none, none, none, none, none, none]) rfl ?_
          exact sX12_balls_142 v1 v2 v3 v6 (v6 - v4) u3
        · refine r_lload dX12_balls_132 rfl ?_
          refine r_goto dX12_balls_134 (tgt := 142) rfl ?_
          refine r_mk [true, true, true, true, false, false, true, false, false, false, false, false, false] (ls2 := [some (.ref 47), some (.int v1), some (.int v2), some (.int v3), none, none, some (.long v6), none, none, none, none, none, none]) rfl ?_
          exact sX12_balls_142 v1 v2 v3 v6 v6 u3
      · refine r_lconst dX12_balls_123 (v := 0) rfl ?_
        refine r_goto dX12_balls_124 (tgt := 142) rfl ?_
        refine r_mk [true, true, true, true, false, false, true, false, false, false, false, false, false] (ls2 := [some (.ref 47), some (.int v1), some (.int v2), some (.int v3), none, none, some (.long v6), none, none, none, none, none, none]) rfl ?_
        exact sX12_balls_142 v1 v2 v3 v6 0 u3
    · refine r_lload dX12_balls_70 rfl ?_
      refine r_bipush dX12_balls_72 (v := 10) rfl ?_
      refine r_iload_n dX12_balls_74 rfl ?_
      refine r_isub dX12_balls_75 ?_
      refine r_i2l dX12_balls_76 ?_
      refine r_lmul dX12_balls_77 ?_
      refine r_lstore dX12_balls_78 (Nat.le_of_ble_eq_true rfl) (ls2 := [some (.ref 47), some (.int v1), some (.int v2), some (.int v3), some (.long (v4 * ((10 - v3 : Int32).toInt64))), none, some (.long v6), none, some (.int v8), none, none, none, none]) rfl ?_
      refine r_lload dX12_balls_80 rfl ?_
      refine r_ldc2 dX12_balls_82 kJX12_443 ?_
      refine r_lmul dX12_balls_85 ?_
      refine r_lstore dX12_balls_86 (Nat.le_of_ble_eq_true rfl) (ls2 := [some (.ref 47), some (.int v1), some (.int v2), some (.int v3), some (.long (v4 * ((10 - v3 : Int32).toInt64))), none, some (.long (v6 * 10)), none, some (.int v8), none, none, none, none]) rfl ?_
      refine r_iinc dX12_balls_88 (Nat.le_of_ble_eq_true rfl) rfl (v := v8 + (-1)) rfl (ls2 := [some (.ref 47), some (.int v1), some (.int v2), some (.int v3), some (.long (v4 * ((10 - v3 : Int32).toInt64))), none, some (.long (v6 * 10)), none, some (.int (v8 + (-1))), none, none, none, none]) rfl ?_
      refine r_goto dX12_balls_91 (tgt := 65) rfl ?_
      exact ih (v4 * ((10 - v3 : Int32).toInt64)) (v6 * 10) (v8 + (-1)) u
def fX12_balls (v1 : Int32) (v2 : Int32) (v3 : Int32) (u : US) : Option (Int32 × US) :=
  nx (sI u 47 0 0) fun u1 => oB (fX12_isRoom v1 u1) fun r2 u2 => (if r2 = 0 then some ((-1), u2) else oB (fX12_isThing v2 u2) fun r3 u3 => (if r3 = 0 then some ((-1), u3) else oB (fX12_in ((v3 : Int32).toInt64) 0 10 u3) fun r4 u4 => (if r4 = 0 then some ((-1), u4) else oB (fX12_panesOf 55 v1 u4) fun r5 u5 => gd (inb 24 26) (oB (fJ6_bitCount_0f7a4 (r5 &&& ((gA u5 55 24) ^^^ (-1))) u5) fun r6 u6 => fX12_balls_65 v1 v2 v3 FU 1 1 r6 u6))))
set_option maxRecDepth 20000 in
theorem sX12_balls (v1 : Int32) (v2 : Int32) (v3 : Int32) (u : US) : Sim tI mX12_balls 401 (fX12_balls v1 v2 v3 u) 0 [some (.ref 47), some (.int v1), some (.int v2), some (.int v3), none, none, none, none, none, none, none, none, none] [] u := by
  unfold fX12_balls
  refine r_aload_n dX12_balls_0 rfl ?_
  refine r_iconst dX12_balls_1 (v := 0) rfl ?_
  refine r_put 47 0 fpX12_3 rfl rfl dX12_balls_2 (r_nx (fun u1 => ?_))
  refine r_aload_n dX12_balls_5 rfl ?_
  refine r_iload_n dX12_balls_6 rfl ?_
  refine c_VI (As := [.int v1]) kvX12_346 rfl (by decide) (okX12_isRoom v1 u1) rfl (Nat.le_of_ble_eq_true rfl) rfl dX12_balls_7 (fun r2 u2 => ?_)
  refine r_if_eq dX12_balls_10 (tgt := 33) rfl ?_ ?_
  · refine r_iconst dX12_balls_33 (v := -1) rfl ?_
    exact r_ireturn rfl dX12_balls_34
  · refine r_aload_n dX12_balls_13 rfl ?_
    refine r_iload_n dX12_balls_14 rfl ?_
    refine c_VI (As := [.int v2]) kvX12_332 rfl (by decide) (okX12_isThing v2 u2) rfl (Nat.le_of_ble_eq_true rfl) rfl dX12_balls_15 (fun r3 u3 => ?_)
    refine r_if_eq dX12_balls_18 (tgt := 33) rfl ?_ ?_
    · refine r_iconst dX12_balls_33 (v := -1) rfl ?_
      exact r_ireturn rfl dX12_balls_34
    · refine r_iload_n dX12_balls_21 rfl ?_
      refine r_i2l dX12_balls_22 ?_
      refine r_lconst dX12_balls_23 (v := 0) rfl ?_
      refine r_ldc2 dX12_balls_24 kJX12_443 ?_
      refine c_SI (As := [.long ((v3 : Int32).toInt64), .long 0, .long 10]) ksX12_143 (by decide) (okX12_in ((v3 : Int32).toInt64) 0 10 u3) rfl (Nat.le_of_ble_eq_true rfl) rfl dX12_balls_27 (fun r4 u4 => ?_)
      refine r_if_ne dX12_balls_30 (tgt := 35) rfl ?_ ?_
      · refine r_lconst dX12_balls_35 (v := 1) rfl ?_
        refine r_lstore dX12_balls_36 (Nat.le_of_ble_eq_true rfl) (ls2 := [some (.ref 47), some (.int v1), some (.int v2), some (.int v3), some (.long 1), none, none, none, none, none, none, none, none]) rfl ?_
        refine r_lconst dX12_balls_38 (v := 1) rfl ?_
        refine r_lstore dX12_balls_39 (Nat.le_of_ble_eq_true rfl) (ls2 := [some (.ref 47), some (.int v1), some (.int v2), some (.int v3), some (.long 1), none, some (.long 1), none, none, none, none, none, none]) rfl ?_
        refine r_aload_n dX12_balls_41 rfl ?_
        refine r_aload_n dX12_balls_42 rfl ?_
        refine r_get 47 15 flX12_49 rfl (v := .ref 55) rfl dX12_balls_43 ?_
        refine r_iload_n dX12_balls_46 rfl ?_
        refine c_VI (As := [.ref 55, .int v1]) kvX12_325 rfl (by decide) (okX12_panesOf 55 v1 u4) rfl (Nat.le_of_ble_eq_true rfl) rfl dX12_balls_47 (fun r5 u5 => ?_)
        refine r_aload_n dX12_balls_50 rfl ?_
        refine r_get 47 15 flX12_49 rfl (v := .ref 55) rfl dX12_balls_51 ?_
        refine r_bipush dX12_balls_54 (v := 24) rfl ?_
        refine r_iald 55 rfl dX12_balls_56 ?_
        refine r_iconst dX12_balls_57 (v := -1) rfl ?_
        refine r_ixor dX12_balls_58 ?_
        refine r_iand dX12_balls_59 ?_
        refine c_SI (As := [.int (r5 &&& ((gA u5 55 24) ^^^ (-1)))]) ksX12_300 (by decide) (okJ6_bitCount_0f7a4 (r5 &&& ((gA u5 55 24) ^^^ (-1))) u5) rfl (Nat.le_of_ble_eq_true rfl) rfl dX12_balls_60 (fun r6 u6 => ?_)
        refine r_istore dX12_balls_63 (Nat.le_of_ble_eq_true rfl) (ls2 := [some (.ref 47), some (.int v1), some (.int v2), some (.int v3), some (.long 1), none, some (.long 1), none, some (.int r6), none, none, none, none]) rfl ?_
        exact sX12_balls_65 v1 v2 v3 FU 1 1 r6 u6
      · refine r_iconst dX12_balls_33 (v := -1) rfl ?_
        exact r_ireturn rfl dX12_balls_34
theorem okX12_balls (v1 : Int32) (v2 : Int32) (v3 : Int32) (u : US) : ∀ r, fX12_balls v1 v2 v3 u = some r → MetC mX12_balls 401 [.ref 47, .int v1, .int v2, .int v3] u (tI r) :=
  met_of (by decide +kernel) (Nat.le_of_ble_eq_true rfl) rfl (sX12_balls v1 v2 v3 u)
def fX12_begins (v1 : Int32) (u : US) : Option (Int32 × US) :=
  nx (sI u 47 18 0) fun u1 => nx (sI u1 47 19 0) fun u2 => nx (sI u2 47 21 0) fun u3 => nx (sI u3 47 20 (if v1 < (gI u 47 18) then v1 else gI u 47 18)) fun u4 => some (gI u 47 18, u4)
set_option maxRecDepth 20000 in
theorem sX12_begins (v1 : Int32) (u : US) : Sim tI mX12_begins 5 (fX12_begins v1 u) 0 [some (.ref 47), some (.int v1), none] [] u := by
  unfold fX12_begins
  refine r_aload_n dX12_begins_0 rfl ?_
  refine r_get 47 18 flX12_159 rfl (v := .int (gI u 47 18)) rfl dX12_begins_1 ?_
  refine r_istore_n dX12_begins_4 (Nat.le_of_ble_eq_true rfl) (ls2 := [some (.ref 47), some (.int v1), some (.int (gI u 47 18))]) rfl ?_
  refine r_aload_n dX12_begins_5 rfl ?_
  refine r_iconst dX12_begins_6 (v := 0) rfl ?_
  refine r_put 47 18 fpX12_159 rfl rfl dX12_begins_7 (r_nx (fun u1 => ?_))
  refine r_aload_n dX12_begins_10 rfl ?_
  refine r_iconst dX12_begins_11 (v := 0) rfl ?_
  refine r_put 47 19 fpX12_162 rfl rfl dX12_begins_12 (r_nx (fun u2 => ?_))
  refine r_aload_n dX12_begins_15 rfl ?_
  refine r_iconst dX12_begins_16 (v := 0) rfl ?_
  refine r_put 47 21 fpX12_165 rfl rfl dX12_begins_17 (r_nx (fun u3 => ?_))
  refine r_aload_n dX12_begins_20 rfl ?_
  refine r_iload_n dX12_begins_21 rfl ?_
  refine r_iload_n dX12_begins_22 rfl ?_
  refine r_min kmX12_168 ktMath_min knMath kcMath_min (by decide) (Nat.le_of_ble_eq_true rfl) dX12_begins_23 ?_
  refine r_put 47 20 fpX12_172 rfl rfl dX12_begins_26 (r_nx (fun u4 => ?_))
  refine r_iload_n dX12_begins_29 rfl ?_
  exact r_ireturn rfl dX12_begins_30
theorem okX12_begins (v1 : Int32) (u : US) : ∀ r, fX12_begins v1 u = some r → MetC mX12_begins 5 [.ref 47, .int v1] u (tI r) :=
  met_of (by decide +kernel) (Nat.le_of_ble_eq_true rfl) rfl (sX12_begins v1 u)
def fX12_best_89 (v1 : Int32) (k36 : Int32 → Int32 → Int32 → Int32 → US → Option (Int32 × US)) (v2 : Int32) (v4 : Int32) (v5 : Int32) (v6 : Int32) (s0 : Int32) (u : US) : Option (Int32 × US) :=
  k36 v2 s0 (if v6 < v4 then v6 else v4) (v5 + 1) u
set_option maxRecDepth 20000 in
theorem sX12_best_89 (v1 : Int32) (k36 : Int32 → Int32 → Int32 → Int32 → US → Option (Int32 × US)) (hk36 : ∀ (v2 : Int32) (v3 : Int32) (v4 : Int32) (v5 : Int32) (u : US), Sim tI mX12_best 10 (k36 v2 v3 v4 v5 u) 36 [some (.ref 47), some (.int v1), some (.int v2), some (.int v3), some (.int v4), some (.int v5), none] [] u) (v2 : Int32) (v4 : Int32) (v5 : Int32) (v6 : Int32) (s0 : Int32) (u : US) : Sim tI mX12_best 10 (fX12_best_89 v1 k36 v2 v4 v5 v6 s0 u) 89 [some (.ref 47), some (.int v1), some (.int v2), none, some (.int v4), some (.int v5), some (.int v6)] [.int s0] u := by
  unfold fX12_best_89
  refine r_istore_n dX12_best_89 (Nat.le_of_ble_eq_true rfl) (ls2 := [some (.ref 47), some (.int v1), some (.int v2), some (.int s0), some (.int v4), some (.int v5), some (.int v6)]) rfl ?_
  refine r_iload dX12_best_90 rfl ?_
  refine r_iload dX12_best_92 rfl ?_
  refine r_min kmX12_168 ktMath_min knMath kcMath_min (by decide) (Nat.le_of_ble_eq_true rfl) dX12_best_94 ?_
  refine r_istore dX12_best_97 (Nat.le_of_ble_eq_true rfl) (ls2 := [some (.ref 47), some (.int v1), some (.int v2), some (.int s0), some (.int (if v6 < v4 then v6 else v4)), some (.int v5), some (.int v6)]) rfl ?_
  refine r_iinc dX12_best_99 (Nat.le_of_ble_eq_true rfl) rfl (v := v5 + 1) rfl (ls2 := [some (.ref 47), some (.int v1), some (.int v2), some (.int s0), some (.int (if v6 < v4 then v6 else v4)), some (.int (v5 + 1)), some (.int v6)]) rfl ?_
  refine r_goto dX12_best_102 (tgt := 36) rfl ?_
  refine r_mk [true, true, true, true, true, true, false] (ls2 := [some (.ref 47), some (.int v1), some (.int v2), some (.int s0), some (.int (if v6 < v4 then v6 else v4)), some (.int (v5 + 1)), none]) rfl ?_
  exact hk36 v2 s0 (if v6 < v4 then v6 else v4) (v5 + 1) u
def fX12_best_36 (v1 : Int32) : Nat → Int32 → Int32 → Int32 → Int32 → US → Option (Int32 × US)
  | 0, _, _, _, _, _ => none
  | n + 1, v2, v3, v4, v5, u => (if (gI u 47 6) ≤ v5 then (if v3 < 0 then some (v3, u) else nx (sI u 47 1 0) fun u1 => oV (fX12_enters ((v4 : Int32).toInt64) u1) fun u2 => oB (fX12_seen 55 v1 u2) fun r3 u3 => oB (fJ6_bitCount_0f7a4 r3 u3) fun r4 u4 => oV (fX12_enters ((r4 : Int32).toInt64) u4) fun u5 => some (v3, u5)) else oB (fX12_has v2 v5 u) fun r6 u6 => (if r6 = 0 then fX12_best_36 v1 n v2 v3 v4 (v5 + 1) u6 else oB (fX12_seenBy 55 v1 (v2 &&& ((1 <<< (v5 &&& 31)) ^^^ (-1))) u6) fun r7 u7 => oB (fJ6_bitCount_0f7a4 r7 u7) fun r8 u8 => (if v4 ≤ r8 then fX12_best_89 v1 (fX12_best_36 v1 n) v2 v4 v5 r8 v3 u8 else fX12_best_89 v1 (fX12_best_36 v1 n) v2 v4 v5 r8 v5 u8)))
set_option maxRecDepth 20000 in
theorem sX12_best_36 (v1 : Int32) : ∀ (n : Nat) (v2 : Int32) (v3 : Int32) (v4 : Int32) (v5 : Int32) (u : US), Sim tI mX12_best 10 (fX12_best_36 v1 n v2 v3 v4 v5 u) 36 [some (.ref 47), some (.int v1), some (.int v2), some (.int v3), some (.int v4), some (.int v5), none] [] u := by
  intro n
  induction n with
  | zero =>
    intro v2 v3 v4 v5 u
    rw [fX12_best_36.eq_1]
    exact r_none
  | succ n ih =>
    intro v2 v3 v4 v5 u
    rw [fX12_best_36.eq_2]
    refine r_iload dX12_best_36 rfl ?_
    refine r_aload_n dX12_best_38 rfl ?_
    refine r_get 47 6 flX12_147 rfl (v := .int (gI u 47 6)) rfl dX12_best_39 ?_
    refine r_icmp_ge dX12_best_42 (tgt := 105) rfl ?_ ?_
    · refine r_iload_n dX12_best_105 rfl ?_
      refine r_if_lt dX12_best_106 (tgt := 138) rfl ?_ ?_
      · refine r_iload_n dX12_best_138 rfl ?_
        exact r_ireturn rfl dX12_best_139
      · refine r_aload_n dX12_best_109 rfl ?_
        refine r_iconst dX12_best_110 (v := 0) rfl ?_
        refine r_put 47 1 fpX12_15 rfl rfl dX12_best_111 (r_nx (fun u1 => ?_))
        refine r_aload_n dX12_best_114 rfl ?_
        refine r_iload dX12_best_115 rfl ?_
        refine r_i2l dX12_best_117 ?_
        refine c_VV (As := [.long ((v4 : Int32).toInt64)]) kvX12_387 rfl (by decide) (okX12_enters ((v4 : Int32).toInt64) u1) rfl (Nat.le_of_ble_eq_true rfl) rfl dX12_best_118 (fun u2 => ?_)
        refine r_aload_n dX12_best_121 rfl ?_
        refine r_aload_n dX12_best_122 rfl ?_
        refine r_aload_n dX12_best_123 rfl ?_
        refine r_get 47 15 flX12_49 rfl (v := .ref 55) rfl dX12_best_124 ?_
        refine r_iload_n dX12_best_127 rfl ?_
        refine c_VI (As := [.ref 55, .int v1]) kvX12_340 rfl (by decide) (okX12_seen 55 v1 u2) rfl (Nat.le_of_ble_eq_true rfl) rfl dX12_best_128 (fun r3 u3 => ?_)
        refine c_SI (As := [.int r3]) ksX12_300 (by decide) (okJ6_bitCount_0f7a4 r3 u3) rfl (Nat.le_of_ble_eq_true rfl) rfl dX12_best_131 (fun r4 u4 => ?_)
        refine r_i2l dX12_best_134 ?_
        refine c_VV (As := [.long ((r4 : Int32).toInt64)]) kvX12_387 rfl (by decide) (okX12_enters ((r4 : Int32).toInt64) u4) rfl (Nat.le_of_ble_eq_true rfl) rfl dX12_best_135 (fun u5 => ?_)
        refine r_iload_n dX12_best_138 rfl ?_
        exact r_ireturn rfl dX12_best_139
    · refine r_iload_n dX12_best_45 rfl ?_
      refine r_iload dX12_best_46 rfl ?_
      refine c_SI (As := [.int v2, .int v5]) ksX12_296 (by decide) (okX12_has v2 v5 u) rfl (Nat.le_of_ble_eq_true rfl) rfl dX12_best_48 (fun r6 u6 => ?_)
      refine r_if_eq dX12_best_51 (tgt := 99) rfl ?_ ?_
      · refine r_iinc dX12_best_99 (Nat.le_of_ble_eq_true rfl) rfl (v := v5 + 1) rfl (ls2 := [some (.ref 47), some (.int v1), some (.int v2), some (.int v3), some (.int v4), some (.int (v5 + 1)), none]) rfl ?_
        refine r_goto dX12_best_102 (tgt := 36) rfl ?_
        exact ih v2 v3 v4 (v5 + 1) u6
      · refine r_aload_n dX12_best_54 rfl ?_
        refine r_aload_n dX12_best_55 rfl ?_
        refine r_get 47 15 flX12_49 rfl (v := .ref 55) rfl dX12_best_56 ?_
        refine r_iload_n dX12_best_59 rfl ?_
        refine r_iload_n dX12_best_60 rfl ?_
        refine r_iconst dX12_best_61 (v := 1) rfl ?_
        refine r_iload dX12_best_62 rfl ?_
        refine r_ishl dX12_best_64 ?_
        refine r_iconst dX12_best_65 (v := -1) rfl ?_
        refine r_ixor dX12_best_66 ?_
        refine r_iand dX12_best_67 ?_
        refine c_VI (As := [.ref 55, .int v1, .int (v2 &&& ((1 <<< (v5 &&& 31)) ^^^ (-1)))]) kvX12_328 rfl (by decide) (okX12_seenBy 55 v1 (v2 &&& ((1 <<< (v5 &&& 31)) ^^^ (-1))) u6) rfl (Nat.le_of_ble_eq_true rfl) rfl dX12_best_68 (fun r7 u7 => ?_)
        refine c_SI (As := [.int r7]) ksX12_300 (by decide) (okJ6_bitCount_0f7a4 r7 u7) rfl (Nat.le_of_ble_eq_true rfl) rfl dX12_best_71 (fun r8 u8 => ?_)
        refine r_istore dX12_best_74 (Nat.le_of_ble_eq_true rfl) (ls2 := [some (.ref 47), some (.int v1), some (.int v2), some (.int v3), some (.int v4), some (.int v5), some (.int r8)]) rfl ?_
        refine r_iload dX12_best_76 rfl ?_
        refine r_iload dX12_best_78 rfl ?_
        refine r_icmp_ge dX12_best_80 (tgt := 88) rfl ?_ ?_
        · refine r_iload_n dX12_best_88 rfl ?_
          refine r_mk [true, true, true, false, true, true, true] (ls2 := [some (.ref 47), some (.int v1), some (.int v2), none, some (.int v4), some (.int v5), some (.int r8)]) rfl ?_
          exact sX12_best_89 v1 (fX12_best_36 v1 n) ih v2 v4 v5 r8 v3 u8
        · refine r_iload dX12_best_83 rfl ?_
          refine r_goto dX12_best_85 (tgt := 89) rfl ?_
          refine r_mk [true, true, true, false, true, true, true] (ls2 := [some (.ref 47), some (.int v1), some (.int v2), none, some (.int v4), some (.int v5), some (.int r8)]) rfl ?_
          exact sX12_best_89 v1 (fX12_best_36 v1 n) ih v2 v4 v5 r8 v5 u8
def fX12_best (v1 : Int32) (u : US) : Option (Int32 × US) :=
  nx (sI u 47 0 0) fun u1 => oB (fX12_isRoom v1 u1) fun r2 u2 => (if r2 = 0 then some ((-1), u2) else oB (fX12_panesOf 55 v1 u2) fun r3 u3 => fX12_best_36 v1 FU r3 (-2) 1000000 0 u3)
set_option maxRecDepth 20000 in
theorem sX12_best (v1 : Int32) (u : US) : Sim tI mX12_best 10 (fX12_best v1 u) 0 [some (.ref 47), some (.int v1), none, none, none, none, none] [] u := by
  unfold fX12_best
  refine r_aload_n dX12_best_0 rfl ?_
  refine r_iconst dX12_best_1 (v := 0) rfl ?_
  refine r_put 47 0 fpX12_3 rfl rfl dX12_best_2 (r_nx (fun u1 => ?_))
  refine r_aload_n dX12_best_5 rfl ?_
  refine r_iload_n dX12_best_6 rfl ?_
  refine c_VI (As := [.int v1]) kvX12_346 rfl (by decide) (okX12_isRoom v1 u1) rfl (Nat.le_of_ble_eq_true rfl) rfl dX12_best_7 (fun r2 u2 => ?_)
  refine r_if_ne dX12_best_10 (tgt := 15) rfl ?_ ?_
  · refine r_aload_n dX12_best_15 rfl ?_
    refine r_aload_n dX12_best_16 rfl ?_
    refine r_get 47 15 flX12_49 rfl (v := .ref 55) rfl dX12_best_17 ?_
    refine r_iload_n dX12_best_20 rfl ?_
    refine c_VI (As := [.ref 55, .int v1]) kvX12_325 rfl (by decide) (okX12_panesOf 55 v1 u2) rfl (Nat.le_of_ble_eq_true rfl) rfl dX12_best_21 (fun r3 u3 => ?_)
    refine r_istore_n dX12_best_24 (Nat.le_of_ble_eq_true rfl) (ls2 := [some (.ref 47), some (.int v1), some (.int r3), none, none, none, none]) rfl ?_
    refine r_bipush dX12_best_25 (v := -2) rfl ?_
    refine r_istore_n dX12_best_27 (Nat.le_of_ble_eq_true rfl) (ls2 := [some (.ref 47), some (.int v1), some (.int r3), some (.int (-2)), none, none, none]) rfl ?_
    refine r_ldc_w dX12_best_28 kIX12_413 ?_
    refine r_istore dX12_best_31 (Nat.le_of_ble_eq_true rfl) (ls2 := [some (.ref 47), some (.int v1), some (.int r3), some (.int (-2)), some (.int 1000000), none, none]) rfl ?_
    refine r_iconst dX12_best_33 (v := 0) rfl ?_
    refine r_istore dX12_best_34 (Nat.le_of_ble_eq_true rfl) (ls2 := [some (.ref 47), some (.int v1), some (.int r3), some (.int (-2)), some (.int 1000000), some (.int 0), none]) rfl ?_
    exact sX12_best_36 v1 FU r3 (-2) 1000000 0 u3
  · refine r_iconst dX12_best_13 (v := -1) rfl ?_
    exact r_ireturn rfl dX12_best_14
theorem okX12_best (v1 : Int32) (u : US) : ∀ r, fX12_best v1 u = some r → MetC mX12_best 10 [.ref 47, .int v1] u (tI r) :=
  met_of (by decide +kernel) (Nat.le_of_ble_eq_true rfl) rfl (sX12_best v1 u)
def fX12_isField (v1 : Int32) (u : US) : Option (Int32 × US) :=
  oB (fX12_in ((v1 : Int32).toInt64) 0 ((((gI u 47 3) * (gI u 47 4)) - 1 : Int32).toInt64) u) fun r1 u1 => gd (isB r1) (some (r1, u1))
set_option maxRecDepth 20000 in
theorem sX12_isField (v1 : Int32) (u : US) : Sim tI mX12_isField 1 (fX12_isField v1 u) 0 [some (.ref 47), some (.int v1)] [] u := by
  unfold fX12_isField
  refine r_iload_n dX12_isField_0 rfl ?_
  refine r_i2l dX12_isField_1 ?_
  refine r_lconst dX12_isField_2 (v := 0) rfl ?_
  refine r_aload_n dX12_isField_3 rfl ?_
  refine r_get 47 3 flX12_24 rfl (v := .int (gI u 47 3)) rfl dX12_isField_4 ?_
  refine r_aload_n dX12_isField_7 rfl ?_
  refine r_get 47 4 flX12_27 rfl (v := .int (gI u 47 4)) rfl dX12_isField_8 ?_
  refine r_imul dX12_isField_11 ?_
  refine r_iconst dX12_isField_12 (v := 1) rfl ?_
  refine r_isub dX12_isField_13 ?_
  refine r_i2l dX12_isField_14 ?_
  refine c_SI (As := [.long ((v1 : Int32).toInt64), .long 0, .long ((((gI u 47 3) * (gI u 47 4)) - 1 : Int32).toInt64)]) ksX12_143 (by decide) (okX12_in ((v1 : Int32).toInt64) 0 ((((gI u 47 3) * (gI u 47 4)) - 1 : Int32).toInt64) u) rfl (Nat.le_of_ble_eq_true rfl) rfl dX12_isField_15 (fun r1 u1 => ?_)
  exact r_zreturn rfl dX12_isField_18
theorem okX12_isField (v1 : Int32) (u : US) : ∀ r, fX12_isField v1 u = some r → MetC mX12_isField 1 [.ref 47, .int v1] u (tI r) :=
  met_of (by decide +kernel) (Nat.le_of_ble_eq_true rfl) rfl (sX12_isField v1 u)
def fX12_carries (v1 : Int32) (v2 : Int32) (v3 : Int32) (u : US) : Option (Int32 × US) :=
  oB (fX12_isThing v1 u) fun r1 u1 => (if r1 = 0 then some ((-1), u1) else oB (fX12_isField v2 u1) fun r2 u2 => (if r2 = 0 then some ((-1), u2) else oB (fX12_in ((v3 : Int32).toInt64) 0 4 u2) fun r3 u3 => (if r3 = 0 then some ((-1), u3) else gd (inb v1 26) (gd (inb v1 26) (nx (sA u3 55 v1 v2) fun u4 => gd (inb (8 + v1) 26) (nx (sA u4 55 (8 + v1) v3) fun u5 => some (gA u3 55 v1, u5)))))))
set_option maxRecDepth 20000 in
theorem sX12_carries (v1 : Int32) (v2 : Int32) (v3 : Int32) (u : US) : Sim tI mX12_carries 2 (fX12_carries v1 v2 v3 u) 0 [some (.ref 47), some (.int v1), some (.int v2), some (.int v3), none] [] u := by
  unfold fX12_carries
  refine r_aload_n dX12_carries_0 rfl ?_
  refine r_iload_n dX12_carries_1 rfl ?_
  refine c_VI (As := [.int v1]) kvX12_332 rfl (by decide) (okX12_isThing v1 u) rfl (Nat.le_of_ble_eq_true rfl) rfl dX12_carries_2 (fun r1 u1 => ?_)
  refine r_if_eq dX12_carries_5 (tgt := 28) rfl ?_ ?_
  · refine r_iconst dX12_carries_28 (v := -1) rfl ?_
    exact r_ireturn rfl dX12_carries_29
  · refine r_aload_n dX12_carries_8 rfl ?_
    refine r_iload_n dX12_carries_9 rfl ?_
    refine c_VI (As := [.int v2]) kvX12_364 rfl (by decide) (okX12_isField v2 u1) rfl (Nat.le_of_ble_eq_true rfl) rfl dX12_carries_10 (fun r2 u2 => ?_)
    refine r_if_eq dX12_carries_13 (tgt := 28) rfl ?_ ?_
    · refine r_iconst dX12_carries_28 (v := -1) rfl ?_
      exact r_ireturn rfl dX12_carries_29
    · refine r_iload_n dX12_carries_16 rfl ?_
      refine r_i2l dX12_carries_17 ?_
      refine r_lconst dX12_carries_18 (v := 0) rfl ?_
      refine r_ldc2 dX12_carries_19 kJX12_335 ?_
      refine c_SI (As := [.long ((v3 : Int32).toInt64), .long 0, .long 4]) ksX12_143 (by decide) (okX12_in ((v3 : Int32).toInt64) 0 4 u2) rfl (Nat.le_of_ble_eq_true rfl) rfl dX12_carries_22 (fun r3 u3 => ?_)
      refine r_if_ne dX12_carries_25 (tgt := 30) rfl ?_ ?_
      · refine r_aload_n dX12_carries_30 rfl ?_
        refine r_get 47 15 flX12_49 rfl (v := .ref 55) rfl dX12_carries_31 ?_
        refine r_iload_n dX12_carries_34 rfl ?_
        refine r_iald 55 rfl dX12_carries_35 ?_
        refine r_istore dX12_carries_36 (Nat.le_of_ble_eq_true rfl) (ls2 := [some (.ref 47), some (.int v1), some (.int v2), some (.int v3), some (.int (gA u3 55 v1))]) rfl ?_
        refine r_aload_n dX12_carries_38 rfl ?_
        refine r_get 47 15 flX12_49 rfl (v := .ref 55) rfl dX12_carries_39 ?_
        refine r_iload_n dX12_carries_42 rfl ?_
        refine r_iload_n dX12_carries_43 rfl ?_
        refine r_iast 55 rfl dX12_carries_44 (r_nx (fun u4 => ?_))
        refine r_aload_n dX12_carries_45 rfl ?_
        refine r_get 47 15 flX12_49 rfl (v := .ref 55) rfl dX12_carries_46 ?_
        refine r_bipush dX12_carries_49 (v := 8) rfl ?_
        refine r_iload_n dX12_carries_51 rfl ?_
        refine r_iadd dX12_carries_52 ?_
        refine r_iload_n dX12_carries_53 rfl ?_
        refine r_iast 55 rfl dX12_carries_54 (r_nx (fun u5 => ?_))
        refine r_iload dX12_carries_55 rfl ?_
        exact r_ireturn rfl dX12_carries_57
      · refine r_iconst dX12_carries_28 (v := -1) rfl ?_
        exact r_ireturn rfl dX12_carries_29
theorem okX12_carries (v1 : Int32) (v2 : Int32) (v3 : Int32) (u : US) : ∀ r, fX12_carries v1 v2 v3 u = some r → MetC mX12_carries 2 [.ref 47, .int v1, .int v2, .int v3] u (tI r) :=
  met_of (by decide +kernel) (Nat.le_of_ble_eq_true rfl) rfl (sX12_carries v1 v2 v3 u)
def fX12_carry (v1 : Int32) (v2 : Int32) (v3 : Int32) (u : US) : Option (Int32 × US) :=
  nx (sI u 47 0 0) fun u1 => oV (fX12_putsBy u1) fun u2 => oB (fX12_carries v1 v2 v3 u2) fun r3 u3 => oB (fX12_counted r3 u3) fun r4 u4 => some (r4, u4)
set_option maxRecDepth 20000 in
theorem sX12_carry (v1 : Int32) (v2 : Int32) (v3 : Int32) (u : US) : Sim tI mX12_carry 3 (fX12_carry v1 v2 v3 u) 0 [some (.ref 47), some (.int v1), some (.int v2), some (.int v3)] [] u := by
  unfold fX12_carry
  refine r_aload_n dX12_carry_0 rfl ?_
  refine r_iconst dX12_carry_1 (v := 0) rfl ?_
  refine r_put 47 0 fpX12_3 rfl rfl dX12_carry_2 (r_nx (fun u1 => ?_))
  refine r_aload_n dX12_carry_5 rfl ?_
  refine c_VV (As := []) kvX12_367 rfl (by decide) (okX12_putsBy u1) rfl (Nat.le_of_ble_eq_true rfl) rfl dX12_carry_6 (fun u2 => ?_)
  refine r_aload_n dX12_carry_9 rfl ?_
  refine r_aload_n dX12_carry_10 rfl ?_
  refine r_iload_n dX12_carry_11 rfl ?_
  refine r_iload_n dX12_carry_12 rfl ?_
  refine r_iload_n dX12_carry_13 rfl ?_
  refine c_VI (As := [.int v1, .int v2, .int v3]) kvX12_382 rfl (by decide) (okX12_carries v1 v2 v3 u2) rfl (Nat.le_of_ble_eq_true rfl) rfl dX12_carry_14 (fun r3 u3 => ?_)
  refine c_VI (As := [.int r3]) kvX12_373 rfl (by decide) (okX12_counted r3 u3) rfl (Nat.le_of_ble_eq_true rfl) rfl dX12_carry_17 (fun r4 u4 => ?_)
  exact r_ireturn rfl dX12_carry_20
theorem okX12_carry (v1 : Int32) (v2 : Int32) (v3 : Int32) (u : US) : ∀ r, fX12_carry v1 v2 v3 u = some r → MetC mX12_carry 3 [.ref 47, .int v1, .int v2, .int v3] u (tI r) :=
  met_of (by decide +kernel) (Nat.le_of_ble_eq_true rfl) rfl (sX12_carry v1 v2 v3 u)
def fX12_givesFrom_85 (gX12_givesFrom : Int32 → Int32 → Int32 → Int32 → US → Option (US)) (v1 : Int32) (v2 : Int32) (v3 : Int32) (v4 : Int32) : Nat → Int32 → US → Option (US)
  | 0, _, _ => none
  | n + 1, v5, u => (if (gI u 47 6) ≤ v5 then some u else oB (fX12_has v3 v5 u) fun r1 u1 => (if r1 = 0 then gd (inb v1 8) (gd (inb v5 8) ((if ((gA u1 78 v1) &&& ((gA u1 52 v5) ^^^ (-1))) = 0 then gd (inb v1 8) (nx (sA u1 79 v1 v5) fun u2 => oV (gX12_givesFrom (v1 + 1) v2 (v3 ||| (1 <<< (v5 &&& 31))) (v4 + 1) u2) fun u3 => fX12_givesFrom_85 gX12_givesFrom v1 v2 v3 v4 n (v5 + 1) u3) else fX12_givesFrom_85 gX12_givesFrom v1 v2 v3 v4 n (v5 + 1) u1))) else fX12_givesFrom_85 gX12_givesFrom v1 v2 v3 v4 n (v5 + 1) u1))
set_option maxRecDepth 20000 in
theorem sX12_givesFrom_85 {dd : Nat} (gX12_givesFrom : Int32 → Int32 → Int32 → Int32 → US → Option (US)) (hgX12_givesFrom : ∀ (v1 : Int32) (v2 : Int32) (v3 : Int32) (v4 : Int32) (u : US), ∀ r, gX12_givesFrom v1 v2 v3 v4 u = some r → MetC mX12_givesFrom dd [.ref 47, .int v1, .int v2, .int v3, .int v4] u (tV r)) (hD : 3 ≤ dd) (v1 : Int32) (v2 : Int32) (v3 : Int32) (v4 : Int32) : ∀ (n : Nat) (v5 : Int32) (u : US), Sim tV mX12_givesFrom (dd + 1) (fX12_givesFrom_85 gX12_givesFrom v1 v2 v3 v4 n v5 u) 85 [some (.ref 47), some (.int v1), some (.int v2), some (.int v3), some (.int v4), some (.int v5)] [] u := by
  intro n
  induction n with
  | zero =>
    intro v5 u
    rw [fX12_givesFrom_85.eq_1]
    exact r_none
  | succ n ih =>
    intro v5 u
    rw [fX12_givesFrom_85.eq_2]
    refine r_iload dX12_givesFrom_85 rfl ?_
    refine r_aload_n dX12_givesFrom_87 rfl ?_
    refine r_get 47 6 flX12_147 rfl (v := .int (gI u 47 6)) rfl dX12_givesFrom_88 ?_
    refine r_icmp_ge dX12_givesFrom_91 (tgt := 154) rfl ?_ ?_
    · exact r_return rfl dX12_givesFrom_154
    · refine r_iload_n dX12_givesFrom_94 rfl ?_
      refine r_iload dX12_givesFrom_95 rfl ?_
      refine c_SI (As := [.int v3, .int v5]) ksX12_296 (by omega) (okX12_has v3 v5 u) rfl (Nat.le_of_ble_eq_true rfl) rfl dX12_givesFrom_97 (fun r1 u1 => ?_)
      refine r_if_ne dX12_givesFrom_100 (tgt := 148) rfl ?_ ?_
      · refine r_iinc dX12_givesFrom_148 (Nat.le_of_ble_eq_true rfl) rfl (v := v5 + 1) rfl (ls2 := [some (.ref 47), some (.int v1), some (.int v2), some (.int v3), some (.int v4), some (.int (v5 + 1))]) rfl ?_
        refine r_goto dX12_givesFrom_151 (tgt := 85) rfl ?_
        exact ih (v5 + 1) u1
      · refine r_aload_n dX12_givesFrom_103 rfl ?_
        refine r_get 47 48 flX12_119 rfl (v := .ref 78) rfl dX12_givesFrom_104 ?_
        refine r_iload_n dX12_givesFrom_107 rfl ?_
        refine r_iald 78 rfl dX12_givesFrom_108 ?_
        refine r_aload_n dX12_givesFrom_109 rfl ?_
        refine r_get 47 12 flX12_40 rfl (v := .ref 52) rfl dX12_givesFrom_110 ?_
        refine r_iload dX12_givesFrom_113 rfl ?_
        refine r_iald 52 rfl dX12_givesFrom_115 ?_
        refine r_iconst dX12_givesFrom_116 (v := -1) rfl ?_
        refine r_ixor dX12_givesFrom_117 ?_
        refine r_iand dX12_givesFrom_118 ?_
        refine r_if_ne dX12_givesFrom_119 (tgt := 148) rfl ?_ ?_
        · refine r_iinc dX12_givesFrom_148 (Nat.le_of_ble_eq_true rfl) rfl (v := v5 + 1) rfl (ls2 := [some (.ref 47), some (.int v1), some (.int v2), some (.int v3), some (.int v4), some (.int (v5 + 1))]) rfl ?_
          refine r_goto dX12_givesFrom_151 (tgt := 85) rfl ?_
          exact ih (v5 + 1) u1
        · refine r_aload_n dX12_givesFrom_122 rfl ?_
          refine r_get 47 49 flX12_122 rfl (v := .ref 79) rfl dX12_givesFrom_123 ?_
          refine r_iload_n dX12_givesFrom_126 rfl ?_
          refine r_iload dX12_givesFrom_127 rfl ?_
          refine r_iast 79 rfl dX12_givesFrom_129 (r_nx (fun u2 => ?_))
          refine r_aload_n dX12_givesFrom_130 rfl ?_
          refine r_iload_n dX12_givesFrom_131 rfl ?_
          refine r_iconst dX12_givesFrom_132 (v := 1) rfl ?_
          refine r_iadd dX12_givesFrom_133 ?_
          refine r_iload_n dX12_givesFrom_134 rfl ?_
          refine r_iload_n dX12_givesFrom_135 rfl ?_
          refine r_iconst dX12_givesFrom_136 (v := 1) rfl ?_
          refine r_iload dX12_givesFrom_137 rfl ?_
          refine r_ishl dX12_givesFrom_139 ?_
          refine r_ior dX12_givesFrom_140 ?_
          refine r_iload dX12_givesFrom_141 rfl ?_
          refine r_iconst dX12_givesFrom_143 (v := 1) rfl ?_
          refine r_iadd dX12_givesFrom_144 ?_
          refine c_VV (As := [.int (v1 + 1), .int v2, .int (v3 ||| (1 <<< (v5 &&& 31))), .int (v4 + 1)]) kvX12_439 rfl (by omega) (hgX12_givesFrom (v1 + 1) v2 (v3 ||| (1 <<< (v5 &&& 31))) (v4 + 1) u2) rfl (Nat.le_of_ble_eq_true rfl) rfl dX12_givesFrom_145 (fun u3 => ?_)
          refine r_iinc dX12_givesFrom_148 (Nat.le_of_ble_eq_true rfl) rfl (v := v5 + 1) rfl (ls2 := [some (.ref 47), some (.int v1), some (.int v2), some (.int v3), some (.int v4), some (.int (v5 + 1))]) rfl ?_
          refine r_goto dX12_givesFrom_151 (tgt := 85) rfl ?_
          exact ih (v5 + 1) u3
def fX12_givesFrom_23 (gX12_givesFrom : Int32 → Int32 → Int32 → Int32 → US → Option (US)) (v1 : Int32) (v2 : Int32) (v3 : Int32) (v4 : Int32) : Nat → Int32 → US → Option (US)
  | 0, _, _ => none
  | n + 1, v5, u => (if v2 ≤ v5 then some u else gd (inb v5 8) (gd (inb v5 8) (nx (sA u 80 v5 (gA u 79 v5)) fun u1 => fX12_givesFrom_23 gX12_givesFrom v1 v2 v3 v4 n (v5 + 1) u1)))
set_option maxRecDepth 20000 in
theorem sX12_givesFrom_23 {dd : Nat} (gX12_givesFrom : Int32 → Int32 → Int32 → Int32 → US → Option (US)) (hgX12_givesFrom : ∀ (v1 : Int32) (v2 : Int32) (v3 : Int32) (v4 : Int32) (u : US), ∀ r, gX12_givesFrom v1 v2 v3 v4 u = some r → MetC mX12_givesFrom dd [.ref 47, .int v1, .int v2, .int v3, .int v4] u (tV r)) (hD : 3 ≤ dd) (v1 : Int32) (v2 : Int32) (v3 : Int32) (v4 : Int32) : ∀ (n : Nat) (v5 : Int32) (u : US), Sim tV mX12_givesFrom (dd + 1) (fX12_givesFrom_23 gX12_givesFrom v1 v2 v3 v4 n v5 u) 23 [some (.ref 47), some (.int v1), some (.int v2), some (.int v3), some (.int v4), some (.int v5)] [] u := by
  intro n
  induction n with
  | zero =>
    intro v5 u
    rw [fX12_givesFrom_23.eq_1]
    exact r_none
  | succ n ih =>
    intro v5 u
    rw [fX12_givesFrom_23.eq_2]
    refine r_iload dX12_givesFrom_23 rfl ?_
    refine r_iload_n dX12_givesFrom_25 rfl ?_
    refine r_icmp_ge dX12_givesFrom_26 (tgt := 49) rfl ?_ ?_
    · exact r_return rfl dX12_givesFrom_49
    · refine r_aload_n dX12_givesFrom_29 rfl ?_
      refine r_get 47 50 flX12_125 rfl (v := .ref 80) rfl dX12_givesFrom_30 ?_
      refine r_iload dX12_givesFrom_33 rfl ?_
      refine r_aload_n dX12_givesFrom_35 rfl ?_
      refine r_get 47 49 flX12_122 rfl (v := .ref 79) rfl dX12_givesFrom_36 ?_
      refine r_iload dX12_givesFrom_39 rfl ?_
      refine r_iald 79 rfl dX12_givesFrom_41 ?_
      refine r_iast 80 rfl dX12_givesFrom_42 (r_nx (fun u1 => ?_))
      refine r_iinc dX12_givesFrom_43 (Nat.le_of_ble_eq_true rfl) rfl (v := v5 + 1) rfl (ls2 := [some (.ref 47), some (.int v1), some (.int v2), some (.int v3), some (.int v4), some (.int (v5 + 1))]) rfl ?_
      refine r_goto dX12_givesFrom_46 (tgt := 23) rfl ?_
      exact ih (v5 + 1) u1
def GX12_givesFrom (gX12_givesFrom : Int32 → Int32 → Int32 → Int32 → US → Option (US)) (v1 : Int32) (v2 : Int32) (v3 : Int32) (v4 : Int32) (u : US) : Option (US) :=
  (if v1 = v2 then (if v4 ≤ (gI u 47 51) then some u else nx (sI u 47 51 v4) fun u3 => fX12_givesFrom_23 gX12_givesFrom v1 v2 v3 v4 FU 0 u3) else (if (gI u 47 51) < ((v4 + v2) - v1) then gd (inb v1 8) (nx (sA u 79 v1 (-1)) fun u1 => oV (gX12_givesFrom (v1 + 1) v2 v3 v4 u1) fun u2 => fX12_givesFrom_85 gX12_givesFrom v1 v2 v3 v4 FU 0 u2) else some u))
set_option maxRecDepth 20000 in
theorem sX12_givesFrom {dd : Nat} (gX12_givesFrom : Int32 → Int32 → Int32 → Int32 → US → Option (US)) (hgX12_givesFrom : ∀ (v1 : Int32) (v2 : Int32) (v3 : Int32) (v4 : Int32) (u : US), ∀ r, gX12_givesFrom v1 v2 v3 v4 u = some r → MetC mX12_givesFrom dd [.ref 47, .int v1, .int v2, .int v3, .int v4] u (tV r)) (hD : 3 ≤ dd) (v1 : Int32) (v2 : Int32) (v3 : Int32) (v4 : Int32) (u : US) : Sim tV mX12_givesFrom (dd + 1) (GX12_givesFrom gX12_givesFrom v1 v2 v3 v4 u) 0 [some (.ref 47), some (.int v1), some (.int v2), some (.int v3), some (.int v4), none] [] u := by
  unfold GX12_givesFrom
  refine r_iload_n dX12_givesFrom_0 rfl ?_
  refine r_iload_n dX12_givesFrom_1 rfl ?_
  refine r_icmp_ne dX12_givesFrom_2 (tgt := 50) rfl ?_ ?_
  · refine r_iload dX12_givesFrom_50 rfl ?_
    refine r_iload_n dX12_givesFrom_52 rfl ?_
    refine r_iadd dX12_givesFrom_53 ?_
    refine r_iload_n dX12_givesFrom_54 rfl ?_
    refine r_isub dX12_givesFrom_55 ?_
    refine r_aload_n dX12_givesFrom_56 rfl ?_
    refine r_get 47 51 flX12_436 rfl (v := .int (gI u 47 51)) rfl dX12_givesFrom_57 ?_
    refine r_icmp_gt dX12_givesFrom_60 (tgt := 64) rfl ?_ ?_
    · refine r_aload_n dX12_givesFrom_64 rfl ?_
      refine r_get 47 49 flX12_122 rfl (v := .ref 79) rfl dX12_givesFrom_65 ?_
      refine r_iload_n dX12_givesFrom_68 rfl ?_
      refine r_iconst dX12_givesFrom_69 (v := -1) rfl ?_
      refine r_iast 79 rfl dX12_givesFrom_70 (r_nx (fun u1 => ?_))
      refine r_aload_n dX12_givesFrom_71 rfl ?_
      refine r_iload_n dX12_givesFrom_72 rfl ?_
      refine r_iconst dX12_givesFrom_73 (v := 1) rfl ?_
      refine r_iadd dX12_givesFrom_74 ?_
      refine r_iload_n dX12_givesFrom_75 rfl ?_
      refine r_iload_n dX12_givesFrom_76 rfl ?_
      refine r_iload dX12_givesFrom_77 rfl ?_
      refine c_VV (As := [.int (v1 + 1), .int v2, .int v3, .int v4]) kvX12_439 rfl (by omega) (hgX12_givesFrom (v1 + 1) v2 v3 v4 u1) rfl (Nat.le_of_ble_eq_true rfl) rfl dX12_givesFrom_79 (fun u2 => ?_)
      refine r_iconst dX12_givesFrom_82 (v := 0) rfl ?_
      refine r_istore dX12_givesFrom_83 (Nat.le_of_ble_eq_true rfl) (ls2 := [some (.ref 47), some (.int v1), some (.int v2), some (.int v3), some (.int v4), some (.int 0)]) rfl ?_
      exact sX12_givesFrom_85 gX12_givesFrom hgX12_givesFrom hD v1 v2 v3 v4 FU 0 u2
    · exact r_return rfl dX12_givesFrom_63
  · refine r_iload dX12_givesFrom_5 rfl ?_
    refine r_aload_n dX12_givesFrom_7 rfl ?_
    refine r_get 47 51 flX12_436 rfl (v := .int (gI u 47 51)) rfl dX12_givesFrom_8 ?_
    refine r_icmp_le dX12_givesFrom_11 (tgt := 49) rfl ?_ ?_
    · exact r_return rfl dX12_givesFrom_49
    · refine r_aload_n dX12_givesFrom_14 rfl ?_
      refine r_iload dX12_givesFrom_15 rfl ?_
      refine r_put 47 51 fpX12_436 rfl rfl dX12_givesFrom_17 (r_nx (fun u3 => ?_))
      refine r_iconst dX12_givesFrom_20 (v := 0) rfl ?_
      refine r_istore dX12_givesFrom_21 (Nat.le_of_ble_eq_true rfl) (ls2 := [some (.ref 47), some (.int v1), some (.int v2), some (.int v3), some (.int v4), some (.int 0)]) rfl ?_
      exact sX12_givesFrom_23 gX12_givesFrom hgX12_givesFrom hD v1 v2 v3 v4 FU 0 u3
theorem okX12_givesFrom {dd : Nat} (gX12_givesFrom : Int32 → Int32 → Int32 → Int32 → US → Option (US)) (hgX12_givesFrom : ∀ (v1 : Int32) (v2 : Int32) (v3 : Int32) (v4 : Int32) (u : US), ∀ r, gX12_givesFrom v1 v2 v3 v4 u = some r → MetC mX12_givesFrom dd [.ref 47, .int v1, .int v2, .int v3, .int v4] u (tV r)) (hD : 3 ≤ dd) (v1 : Int32) (v2 : Int32) (v3 : Int32) (v4 : Int32) (u : US) : ∀ r, GX12_givesFrom gX12_givesFrom v1 v2 v3 v4 u = some r → MetC mX12_givesFrom (dd + 1) [.ref 47, .int v1, .int v2, .int v3, .int v4] u (tV r) :=
  met_of (by decide +kernel) (Nat.le_of_ble_eq_true rfl) rfl (sX12_givesFrom gX12_givesFrom hgX12_givesFrom hD v1 v2 v3 v4 u)
def fX12_givesFrom : Nat → Int32 → Int32 → Int32 → Int32 → US → Option (US)
  | 0 => fun _ _ _ _ _ => none
  | n + 1 => GX12_givesFrom (fX12_givesFrom n)
theorem ok_X12_givesFrom : ∀ (n : Nat) (v1 : Int32) (v2 : Int32) (v3 : Int32) (v4 : Int32) (u : US), ∀ r, fX12_givesFrom n v1 v2 v3 v4 u = some r → MetC mX12_givesFrom (3 + n * 1) [.ref 47, .int v1, .int v2, .int v3, .int v4] u (tV r) := by
  intro n
  induction n with
  | zero => intro v1 v2 v3 v4 u r h; cases h
  | succ n ih =>
    intro v1 v2 v3 v4 u r h
    have := okX12_givesFrom (dd := 3 + n * 1) (fX12_givesFrom n) ih (by omega) v1 v2 v3 v4 u r h
    rw [show 3 + (n + 1) * 1 = 3 + n * 1 + 1 by omega]
    exact this
def fX12_takesOf_20 (v1 : Nat) (v2 : Int32) (s1 : Int32) (s2 : Int32) (u : US) : Option (Int32 × US) :=
  oB (fX12_flag s2 u) fun r1 u1 => nx (sI u1 47 19 (s1 + r1)) fun u2 => some (v2, u2)
set_option maxRecDepth 20000 in
theorem sX12_takesOf_20 (v1 : Nat) (h1 : isStr v1 = true) (v2 : Int32) (s1 : Int32) (s2 : Int32) (u : US) : Sim tI mX12_takesOf 6 (fX12_takesOf_20 v1 v2 s1 s2 u) 20 [some (.ref 47), some (.ref v1), some (.int v2)] [.int s2, .int s1, .ref 47] u := by
  unfold fX12_takesOf_20
  refine c_SI (As := [.int s2]) ksX12_175 (by decide) (okX12_flag s2 u) rfl (Nat.le_of_ble_eq_true rfl) rfl dX12_takesOf_20 (fun r1 u1 => ?_)
  refine r_iadd dX12_takesOf_23 ?_
  refine r_put 47 19 fpX12_162 rfl rfl dX12_takesOf_24 (r_nx (fun u2 => ?_))
  refine r_iload_n dX12_takesOf_27 rfl ?_
  exact r_ireturn rfl dX12_takesOf_28
def fX12_takesOf (v1 : Nat) (u : US) : Option (Int32 × US) :=
  gd (isStr v1) (oB (fX12_among v1 u) fun r1 u1 => (if r1 < 0 then fX12_takesOf_20 v1 r1 (gI u1 47 19) 0 u1 else fX12_takesOf_20 v1 r1 (gI u1 47 19) 1 u1))
set_option maxRecDepth 20000 in
theorem sX12_takesOf (v1 : Nat) (u : US) : Sim tI mX12_takesOf 6 (fX12_takesOf v1 u) 0 [some (.ref 47), some (.ref v1), none] [] u := by
  unfold fX12_takesOf
  refine r_gd (fun h1 => ?_)
  refine r_aload_n dX12_takesOf_0 rfl ?_
  refine r_aload_n dX12_takesOf_1 rfl ?_
  refine c_VI (As := [.ref v1]) kvX12_193 rfl (by decide) (okX12_among v1 u) rfl (Nat.le_of_ble_eq_true rfl) rfl dX12_takesOf_2 (fun r1 u1 => ?_)
  refine r_istore_n dX12_takesOf_5 (Nat.le_of_ble_eq_true rfl) (ls2 := [some (.ref 47), some (.ref v1), some (.int r1)]) rfl ?_
  refine r_aload_n dX12_takesOf_6 rfl ?_
  refine r_dup dX12_takesOf_7 rfl ?_
  refine r_get 47 19 flX12_162 rfl (v := .int (gI u1 47 19)) rfl dX12_takesOf_8 ?_
  refine r_iload_n dX12_takesOf_11 rfl ?_
  refine r_if_lt dX12_takesOf_12 (tgt := 19) rfl ?_ ?_
  · refine r_iconst dX12_takesOf_19 (v := 0) rfl ?_
    exact sX12_takesOf_20 v1 h1 r1 (gI u1 47 19) 0 u1
  · refine r_iconst dX12_takesOf_15 (v := 1) rfl ?_
    refine r_goto dX12_takesOf_16 (tgt := 20) rfl ?_
    exact sX12_takesOf_20 v1 h1 r1 (gI u1 47 19) 1 u1
theorem okX12_takesOf (v1 : Nat) (u : US) : ∀ r, fX12_takesOf v1 u = some r → MetC mX12_takesOf 6 [.ref 47, .ref v1] u (tI r) :=
  met_of (by decide +kernel) (Nat.le_of_ble_eq_true rfl) rfl (sX12_takesOf v1 u)
def fX12_letters_2 : Nat → Int32 → US → Option (Int32 × US)
  | 0, _, _ => none
  | n + 1, v1, u => oB (fX12_among 100 u) fun r1 u1 => (if r1 < 0 then some (v1, u1) else oB (fX12_among 100 u1) fun r2 u2 => (if (v1 >>> (r2 &&& 31)) = 0 then oB (fX12_takesOf 100 u2) fun r3 u3 => fX12_letters_2 n (v1 ||| (1 <<< (r3 &&& 31))) u3 else some (v1, u2)))
set_option maxRecDepth 20000 in
theorem sX12_letters_2 : ∀ (n : Nat) (v1 : Int32) (u : US), Sim tI mX12_letters 7 (fX12_letters_2 n v1 u) 2 [some (.ref 47), some (.int v1)] [] u := by
  intro n
  induction n with
  | zero =>
    intro v1 u
    rw [fX12_letters_2.eq_1]
    exact r_none
  | succ n ih =>
    intro v1 u
    rw [fX12_letters_2.eq_2]
    refine r_aload_n dX12_letters_2 rfl ?_
    refine r_ldcS 0 rfl rfl rfl dX12_letters_3 ?_
    refine c_VI (As := [.ref 100]) kvX12_193 rfl (by decide) (okX12_among 100 u) rfl (Nat.le_of_ble_eq_true rfl) rfl dX12_letters_5 (fun r1 u1 => ?_)
    refine r_if_lt dX12_letters_8 (tgt := 36) rfl ?_ ?_
    · refine r_iload_n dX12_letters_36 rfl ?_
      exact r_ireturn rfl dX12_letters_37
    · refine r_iload_n dX12_letters_11 rfl ?_
      refine r_aload_n dX12_letters_12 rfl ?_
      refine r_ldcS 0 rfl rfl rfl dX12_letters_13 ?_
      refine c_VI (As := [.ref 100]) kvX12_193 rfl (by decide) (okX12_among 100 u1) rfl (Nat.le_of_ble_eq_true rfl) rfl dX12_letters_15 (fun r2 u2 => ?_)
      refine r_ishr dX12_letters_18 ?_
      refine r_if_ne dX12_letters_19 (tgt := 36) rfl ?_ ?_
      · refine r_iload_n dX12_letters_36 rfl ?_
        exact r_ireturn rfl dX12_letters_37
      · refine r_iload_n dX12_letters_22 rfl ?_
        refine r_iconst dX12_letters_23 (v := 1) rfl ?_
        refine r_aload_n dX12_letters_24 rfl ?_
        refine r_ldcS 0 rfl rfl rfl dX12_letters_25 ?_
        refine c_VI (As := [.ref 100]) kvX12_203 rfl (by decide) (okX12_takesOf 100 u2) rfl (Nat.le_of_ble_eq_true rfl) rfl dX12_letters_27 (fun r3 u3 => ?_)
        refine r_ishl dX12_letters_30 ?_
        refine r_ior dX12_letters_31 ?_
        refine r_istore_n dX12_letters_32 (Nat.le_of_ble_eq_true rfl) (ls2 := [some (.ref 47), some (.int (v1 ||| (1 <<< (r3 &&& 31))))]) rfl ?_
        refine r_goto dX12_letters_33 (tgt := 2) rfl ?_
        exact ih (v1 ||| (1 <<< (r3 &&& 31))) u3
def fX12_letters (u : US) : Option (Int32 × US) :=
  fX12_letters_2 FU 0 u
set_option maxRecDepth 20000 in
theorem sX12_letters (u : US) : Sim tI mX12_letters 7 (fX12_letters u) 0 [some (.ref 47), none] [] u := by
  unfold fX12_letters
  refine r_iconst dX12_letters_0 (v := 0) rfl ?_
  refine r_istore_n dX12_letters_1 (Nat.le_of_ble_eq_true rfl) (ls2 := [some (.ref 47), some (.int 0)]) rfl ?_
  exact sX12_letters_2 FU 0 u
theorem okX12_letters (u : US) : ∀ r, fX12_letters u = some r → MetC mX12_letters 7 [.ref 47] u (tI r) :=
  met_of (by decide +kernel) (Nat.le_of_ble_eq_true rfl) rfl (sX12_letters u)
def fX12_takesSign_29 (v1 : Int32) (s0 : Int32) (u : US) : Option (Int32 × US) :=
  oB (fX12_flag s0 u) fun r1 u1 => nx (sI u1 47 19 ((gI u 47 19) + r1)) fun u2 => gd (isB s0) (some (s0, u2))
set_option maxRecDepth 20000 in
theorem sX12_takesSign_29 (v1 : Int32) (s0 : Int32) (u : US) : Sim tI mX12_takesSign 1 (fX12_takesSign_29 v1 s0 u) 29 [some (.ref 47), some (.int v1), none] [.int s0] u := by
  unfold fX12_takesSign_29
  refine r_istore_n dX12_takesSign_29 (Nat.le_of_ble_eq_true rfl) (ls2 := [some (.ref 47), some (.int v1), some (.int s0)]) rfl ?_
  refine r_aload_n dX12_takesSign_30 rfl ?_
  refine r_dup dX12_takesSign_31 rfl ?_
  refine r_get 47 19 flX12_162 rfl (v := .int (gI u 47 19)) rfl dX12_takesSign_32 ?_
  refine r_iload_n dX12_takesSign_35 rfl ?_
  refine c_SI (As := [.int s0]) ksX12_175 (by decide) (okX12_flag s0 u) rfl (Nat.le_of_ble_eq_true rfl) rfl dX12_takesSign_36 (fun r1 u1 => ?_)
  refine r_iadd dX12_takesSign_39 ?_
  refine r_put 47 19 fpX12_162 rfl rfl dX12_takesSign_40 (r_nx (fun u2 => ?_))
  refine r_iload_n dX12_takesSign_43 rfl ?_
  exact r_zreturn rfl dX12_takesSign_44
def fX12_takesSign_28 (v1 : Int32) (u : US) : Option (Int32 × US) :=
  fX12_takesSign_29 v1 0 u
set_option maxRecDepth 20000 in
theorem sX12_takesSign_28 (v1 : Int32) (u : US) : Sim tI mX12_takesSign 1 (fX12_takesSign_28 v1 u) 28 [some (.ref 47), some (.int v1), none] [] u := by
  unfold fX12_takesSign_28
  refine r_iconst dX12_takesSign_28 (v := 0) rfl ?_
  exact sX12_takesSign_29 v1 0 u
def fX12_takesSign (v1 : Int32) (u : US) : Option (Int32 × US) :=
  (if (gI u 47 20) ≤ (gI u 47 19) then fX12_takesSign_28 v1 u else gd (inb (gI u 47 19) 80) ((if (gA u 57 (gI u 47 19)) = v1 then fX12_takesSign_29 v1 1 u else fX12_takesSign_28 v1 u)))
set_option maxRecDepth 20000 in
theorem sX12_takesSign (v1 : Int32) (u : US) : Sim tI mX12_takesSign 1 (fX12_takesSign v1 u) 0 [some (.ref 47), some (.int v1), none] [] u := by
  unfold fX12_takesSign
  refine r_aload_n dX12_takesSign_0 rfl ?_
  refine r_get 47 19 flX12_162 rfl (v := .int (gI u 47 19)) rfl dX12_takesSign_1 ?_
  refine r_aload_n dX12_takesSign_4 rfl ?_
  refine r_get 47 20 flX12_172 rfl (v := .int (gI u 47 20)) rfl dX12_takesSign_5 ?_
  refine r_icmp_ge dX12_takesSign_8 (tgt := 28) rfl ?_ ?_
  · exact sX12_takesSign_28 v1 u
  · refine r_aload_n dX12_takesSign_11 rfl ?_
    refine r_get 47 17 flX12_55 rfl (v := .ref 57) rfl dX12_takesSign_12 ?_
    refine r_aload_n dX12_takesSign_15 rfl ?_
    refine r_get 47 19 flX12_162 rfl (v := .int (gI u 47 19)) rfl dX12_takesSign_16 ?_
    refine r_iald 57 rfl dX12_takesSign_19 ?_
    refine r_iload_n dX12_takesSign_20 rfl ?_
    refine r_icmp_ne dX12_takesSign_21 (tgt := 28) rfl ?_ ?_
    · exact sX12_takesSign_28 v1 u
    · refine r_iconst dX12_takesSign_24 (v := 1) rfl ?_
      refine r_goto dX12_takesSign_25 (tgt := 29) rfl ?_
      exact sX12_takesSign_29 v1 1 u
theorem okX12_takesSign (v1 : Int32) (u : US) : ∀ r, fX12_takesSign v1 u = some r → MetC mX12_takesSign 1 [.ref 47, .int v1] u (tI r) :=
  met_of (by decide +kernel) (Nat.le_of_ble_eq_true rfl) rfl (sX12_takesSign v1 u)
def fX12_claims_142 : Nat → Int32 → Int32 → US → Option (Int32 × US)
  | 0, _, _, _ => none
  | n + 1, v2, v5, u => (if v2 ≤ v5 then some (gI u 47 51, u) else gd (inb v5 8) (oV (fX12_enters ((gA u 80 v5 : Int32).toInt64) u) fun u1 => fX12_claims_142 n v2 (v5 + 1) u1))
set_option maxRecDepth 20000 in
theorem sX12_claims_142 : ∀ (n : Nat) (v2 : Int32) (v5 : Int32) (u : US), Sim tI mX12_claims 401 (fX12_claims_142 n v2 v5 u) 142 [some (.ref 47), none, some (.int v2), none, none, some (.int v5)] [] u := by
  intro n
  induction n with
  | zero =>
    intro v2 v5 u
    rw [fX12_claims_142.eq_1]
    exact r_none
  | succ n ih =>
    intro v2 v5 u
    rw [fX12_claims_142.eq_2]
    refine r_iload dX12_claims_142 rfl ?_
    refine r_iload_n dX12_claims_144 rfl ?_
    refine r_icmp_ge dX12_claims_145 (tgt := 166) rfl ?_ ?_
    · refine r_aload_n dX12_claims_166 rfl ?_
      refine r_get 47 51 flX12_436 rfl (v := .int (gI u 47 51)) rfl dX12_claims_167 ?_
      exact r_ireturn rfl dX12_claims_170
    · refine r_aload_n dX12_claims_148 rfl ?_
      refine r_aload_n dX12_claims_149 rfl ?_
      refine r_get 47 50 flX12_125 rfl (v := .ref 80) rfl dX12_claims_150 ?_
      refine r_iload dX12_claims_153 rfl ?_
      refine r_iald 80 rfl dX12_claims_155 ?_
      refine r_i2l dX12_claims_156 ?_
      refine c_VV (As := [.long ((gA u 80 v5 : Int32).toInt64)]) kvX12_387 rfl (by decide) (okX12_enters ((gA u 80 v5 : Int32).toInt64) u) rfl (Nat.le_of_ble_eq_true rfl) rfl dX12_claims_157 (fun u1 => ?_)
      refine r_iinc dX12_claims_160 (Nat.le_of_ble_eq_true rfl) rfl (v := v5 + 1) rfl (ls2 := [some (.ref 47), none, some (.int v2), none, none, some (.int (v5 + 1))]) rfl ?_
      refine r_goto dX12_claims_163 (tgt := 142) rfl ?_
      exact ih v2 (v5 + 1) u1
def fX12_claims_76 (k27 : Int32 → Int32 → Int32 → US → Option (Int32 × US)) (v2 : Int32) (v3 : Int32) (u : US) : Option (Int32 × US) :=
  (if v3 = 0 then k27 v2 v3 0 u else oB (fX12_takesSign 59 u) fun r1 u1 => (if r1 = 0 then k27 v2 v3 0 u1 else k27 v2 v3 1 u1))
set_option maxRecDepth 20000 in
theorem sX12_claims_76 (k27 : Int32 → Int32 → Int32 → US → Option (Int32 × US)) (hk27 : ∀ (v2 : Int32) (v3 : Int32) (v4 : Int32) (u : US), Sim tI mX12_claims 401 (k27 v2 v3 v4 u) 27 [some (.ref 47), none, some (.int v2), some (.int v3), some (.int v4), none] [] u) (v2 : Int32) (v3 : Int32) (u : US) : Sim tI mX12_claims 401 (fX12_claims_76 k27 v2 v3 u) 76 [some (.ref 47), none, some (.int v2), some (.int v3), none, none] [] u := by
  unfold fX12_claims_76
  refine r_iload_n dX12_claims_76 rfl ?_
  refine r_if_eq dX12_claims_77 (tgt := 93) rfl ?_ ?_
  · refine r_iconst dX12_claims_93 (v := 0) rfl ?_
    refine r_istore dX12_claims_94 (Nat.le_of_ble_eq_true rfl) (ls2 := [some (.ref 47), none, some (.int v2), some (.int v3), some (.int 0), none]) rfl ?_
    refine r_goto dX12_claims_96 (tgt := 27) rfl ?_
    exact hk27 v2 v3 0 u
  · refine r_aload_n dX12_claims_80 rfl ?_
    refine r_bipush dX12_claims_81 (v := 59) rfl ?_
    refine c_VI (As := [.int 59]) kvX12_245 rfl (by decide) (okX12_takesSign 59 u) rfl (Nat.le_of_ble_eq_true rfl) rfl dX12_claims_83 (fun r1 u1 => ?_)
    refine r_if_eq dX12_claims_86 (tgt := 93) rfl ?_ ?_
    · refine r_iconst dX12_claims_93 (v := 0) rfl ?_
      refine r_istore dX12_claims_94 (Nat.le_of_ble_eq_true rfl) (ls2 := [some (.ref 47), none, some (.int v2), some (.int v3), some (.int 0), none]) rfl ?_
      refine r_goto dX12_claims_96 (tgt := 27) rfl ?_
      exact hk27 v2 v3 0 u1
    · refine r_iconst dX12_claims_89 (v := 1) rfl ?_
      refine r_goto dX12_claims_90 (tgt := 94) rfl ?_
      refine r_istore dX12_claims_94 (Nat.le_of_ble_eq_true rfl) (ls2 := [some (.ref 47), none, some (.int v2), some (.int v3), some (.int 1), none]) rfl ?_
      refine r_goto dX12_claims_96 (tgt := 27) rfl ?_
      exact hk27 v2 v3 1 u1
def fX12_claims_72 (k27 : Int32 → Int32 → Int32 → US → Option (Int32 × US)) (v2 : Int32) (s0 : Int32) (u : US) : Option (Int32 × US) :=
  fX12_claims_76 k27 (v2 + 1) s0 u
set_option maxRecDepth 20000 in
theorem sX12_claims_72 (k27 : Int32 → Int32 → Int32 → US → Option (Int32 × US)) (hk27 : ∀ (v2 : Int32) (v3 : Int32) (v4 : Int32) (u : US), Sim tI mX12_claims 401 (k27 v2 v3 v4 u) 27 [some (.ref 47), none, some (.int v2), some (.int v3), some (.int v4), none] [] u) (v2 : Int32) (s0 : Int32) (u : US) : Sim tI mX12_claims 401 (fX12_claims_72 k27 v2 s0 u) 72 [some (.ref 47), none, some (.int v2), none, none, none] [.int s0] u := by
  unfold fX12_claims_72
  refine r_istore_n dX12_claims_72 (Nat.le_of_ble_eq_true rfl) (ls2 := [some (.ref 47), none, some (.int v2), some (.int s0), none, none]) rfl ?_
  refine r_iinc dX12_claims_73 (Nat.le_of_ble_eq_true rfl) rfl (v := v2 + 1) rfl (ls2 := [some (.ref 47), none, some (.int (v2 + 1)), some (.int s0), none, none]) rfl ?_
  exact sX12_claims_76 k27 hk27 (v2 + 1) s0 u
def fX12_claims_43 (k27 : Int32 → Int32 → Int32 → US → Option (Int32 × US)) (v2 : Int32) (s0 : Int32) (u : US) : Option (Int32 × US) :=
  (if s0 = 0 then fX12_claims_76 k27 v2 s0 u else oB (fX12_letters u) fun r1 u1 => gd (inb v2 8) (nx (sA u1 78 v2 r1) fun u2 => gd (inb v2 8) ((if (gA u2 78 v2) = 0 then fX12_claims_72 k27 v2 0 u2 else fX12_claims_72 k27 v2 1 u2))))
set_option maxRecDepth 20000 in
theorem sX12_claims_43 (k27 : Int32 → Int32 → Int32 → US → Option (Int32 × US)) (hk27 : ∀ (v2 : Int32) (v3 : Int32) (v4 : Int32) (u : US), Sim tI mX12_claims 401 (k27 v2 v3 v4 u) 27 [some (.ref 47), none, some (.int v2), some (.int v3), some (.int v4), none] [] u) (v2 : Int32) (s0 : Int32) (u : US) : Sim tI mX12_claims 401 (fX12_claims_43 k27 v2 s0 u) 43 [some (.ref 47), none, some (.int v2), none, none, none] [.int s0] u := by
  unfold fX12_claims_43
  refine r_istore_n dX12_claims_43 (Nat.le_of_ble_eq_true rfl) (ls2 := [some (.ref 47), none, some (.int v2), some (.int s0), none, none]) rfl ?_
  refine r_iload_n dX12_claims_44 rfl ?_
  refine r_if_eq dX12_claims_45 (tgt := 76) rfl ?_ ?_
  · exact sX12_claims_76 k27 hk27 v2 s0 u
  · refine r_aload_n dX12_claims_48 rfl ?_
    refine r_get 47 48 flX12_119 rfl (v := .ref 78) rfl dX12_claims_49 ?_
    refine r_iload_n dX12_claims_52 rfl ?_
    refine r_aload_n dX12_claims_53 rfl ?_
    refine c_VI (As := []) kvX12_229 rfl (by decide) (okX12_letters u) rfl (Nat.le_of_ble_eq_true rfl) rfl dX12_claims_54 (fun r1 u1 => ?_)
    refine r_iast 78 rfl dX12_claims_57 (r_nx (fun u2 => ?_))
    refine r_aload_n dX12_claims_58 rfl ?_
    refine r_get 47 48 flX12_119 rfl (v := .ref 78) rfl dX12_claims_59 ?_
    refine r_iload_n dX12_claims_62 rfl ?_
    refine r_iald 78 rfl dX12_claims_63 ?_
    refine r_if_eq dX12_claims_64 (tgt := 71) rfl ?_ ?_
    · refine r_iconst dX12_claims_71 (v := 0) rfl ?_
      refine r_mk [true, false, true, false, false, false] (ls2 := [some (.ref 47), none, some (.int v2), none, none, none]) rfl ?_
      exact sX12_claims_72 k27 hk27 v2 0 u2
    · refine r_iconst dX12_claims_67 (v := 1) rfl ?_
      refine r_goto dX12_claims_68 (tgt := 72) rfl ?_
      refine r_mk [true, false, true, false, false, false] (ls2 := [some (.ref 47), none, some (.int v2), none, none, none]) rfl ?_
      exact sX12_claims_72 k27 hk27 v2 1 u2
def fX12_claims_27 : Nat → Int32 → Int32 → Int32 → US → Option (Int32 × US)
  | 0, _, _, _, _ => none
  | n + 1, v2, v3, v4, u => (if v4 = 0 then (if v3 = 0 then some ((-1) - (gI u 47 19), u) else (if (gI u 47 20) ≤ (gI u 47 19) then nx (sI u 47 51 (-1)) fun u1 => oV (fX12_givesFrom 12 0 v2 0 0 u1) fun u2 => nx (sI u2 47 1 0) fun u3 => fX12_claims_142 FU v2 0 u3 else some ((-1) - (gI u 47 19), u))) else (if (8 : Int32) ≤ v2 then fX12_claims_43 (fX12_claims_27 n) v2 0 u else fX12_claims_43 (fX12_claims_27 n) v2 1 u))
set_option maxRecDepth 20000 in
theorem sX12_claims_27 : ∀ (n : Nat) (v2 : Int32) (v3 : Int32) (v4 : Int32) (u : US), Sim tI mX12_claims 401 (fX12_claims_27 n v2 v3 v4 u) 27 [some (.ref 47), none, some (.int v2), some (.int v3), some (.int v4), none] [] u := by
  intro n
  induction n with
  | zero =>
    intro v2 v3 v4 u
    rw [fX12_claims_27.eq_1]
    exact r_none
  | succ n ih =>
    intro v2 v3 v4 u
    rw [fX12_claims_27.eq_2]
    refine r_iload dX12_claims_27 rfl ?_
    refine r_if_eq dX12_claims_29 (tgt := 99) rfl ?_ ?_
    · refine r_iload_n dX12_claims_99 rfl ?_
      refine r_if_eq dX12_claims_100 (tgt := 114) rfl ?_ ?_
      · refine r_iconst dX12_claims_114 (v := -1) rfl ?_
        refine r_aload_n dX12_claims_115 rfl ?_
        refine r_get 47 19 flX12_162 rfl (v := .int (gI u 47 19)) rfl dX12_claims_116 ?_
        refine r_isub dX12_claims_119 ?_
        exact r_ireturn rfl dX12_claims_120
      · refine r_aload_n dX12_claims_103 rfl ?_
        refine r_get 47 19 flX12_162 rfl (v := .int (gI u 47 19)) rfl dX12_claims_104 ?_
        refine r_aload_n dX12_claims_107 rfl ?_
        refine r_get 47 20 flX12_172 rfl (v := .int (gI u 47 20)) rfl dX12_claims_108 ?_
        refine r_icmp_ge dX12_claims_111 (tgt := 121) rfl ?_ ?_
        · refine r_aload_n dX12_claims_121 rfl ?_
          refine r_iconst dX12_claims_122 (v := -1) rfl ?_
          refine r_put 47 51 fpX12_436 rfl rfl dX12_claims_123 (r_nx (fun u1 => ?_))
          refine r_aload_n dX12_claims_126 rfl ?_
          refine r_iconst dX12_claims_127 (v := 0) rfl ?_
          refine r_iload_n dX12_claims_128 rfl ?_
          refine r_iconst dX12_claims_129 (v := 0) rfl ?_
          refine r_iconst dX12_claims_130 (v := 0) rfl ?_
          refine c_VV (As := [.int 0, .int v2, .int 0, .int 0]) kvX12_439 rfl (by decide) (ok_X12_givesFrom 12 0 v2 0 0 u1) rfl (Nat.le_of_ble_eq_true rfl) rfl dX12_claims_131 (fun u2 => ?_)
          refine r_aload_n dX12_claims_134 rfl ?_
          refine r_iconst dX12_claims_135 (v := 0) rfl ?_
          refine r_put 47 1 fpX12_15 rfl rfl dX12_claims_136 (r_nx (fun u3 => ?_))
          refine r_iconst dX12_claims_139 (v := 0) rfl ?_
          refine r_istore dX12_claims_140 (Nat.le_of_ble_eq_true rfl) (ls2 := [some (.ref 47), none, some (.int v2), some (.int v3), some (.int v4), some (.int 0)]) rfl ?_
          refine r_mk [true, false, true, false, false, true] (ls2 := [some (.ref 47), none, some (.int v2), none, none, some (.int 0)]) rfl ?_
          exact sX12_claims_142 FU v2 0 u3
        · refine r_iconst dX12_claims_114 (v := -1) rfl ?_
          refine r_aload_n dX12_claims_115 rfl ?_
          refine r_get 47 19 flX12_162 rfl (v := .int (gI u 47 19)) rfl dX12_claims_116 ?_
          refine r_isub dX12_claims_119 ?_
          exact r_ireturn rfl dX12_claims_120
    · refine r_iload_n dX12_claims_32 rfl ?_
      refine r_bipush dX12_claims_33 (v := 8) rfl ?_
      refine r_icmp_ge dX12_claims_35 (tgt := 42) rfl ?_ ?_
      · refine r_iconst dX12_claims_42 (v := 0) rfl ?_
        refine r_mk [true, false, true, false, false, false] (ls2 := [some (.ref 47), none, some (.int v2), none, none, none]) rfl ?_
        exact sX12_claims_43 (fX12_claims_27 n) ih v2 0 u
      · refine r_iconst dX12_claims_38 (v := 1) rfl ?_
        refine r_goto dX12_claims_39 (tgt := 43) rfl ?_
        refine r_mk [true, false, true, false, false, false] (ls2 := [some (.ref 47), none, some (.int v2), none, none, none]) rfl ?_
        exact sX12_claims_43 (fX12_claims_27 n) ih v2 1 u
def fX12_claims (u : US) : Option (Int32 × US) :=
  nx (sI u 47 0 0) fun u1 => oB (fX12_begins 80 u1) fun r2 u2 => (if r2 ≤ 0 then fX12_claims_27 FU 0 1 0 u2 else fX12_claims_27 FU 0 1 1 u2)
set_option maxRecDepth 20000 in
theorem sX12_claims (u : US) : Sim tI mX12_claims 401 (fX12_claims u) 0 [some (.ref 47), none, none, none, none, none] [] u := by
  unfold fX12_claims
  refine r_aload_n dX12_claims_0 rfl ?_
  refine r_iconst dX12_claims_1 (v := 0) rfl ?_
  refine r_put 47 0 fpX12_3 rfl rfl dX12_claims_2 (r_nx (fun u1 => ?_))
  refine r_aload_n dX12_claims_5 rfl ?_
  refine r_bipush dX12_claims_6 (v := 80) rfl ?_
  refine c_VI (As := [.int 80]) kvX12_206 rfl (by decide) (okX12_begins 80 u1) rfl (Nat.le_of_ble_eq_true rfl) rfl dX12_claims_8 (fun r2 u2 => ?_)
  refine r_istore_n dX12_claims_11 (Nat.le_of_ble_eq_true rfl) (ls2 := [some (.ref 47), some (.int r2), none, none, none, none]) rfl ?_
  refine r_iconst dX12_claims_12 (v := 0) rfl ?_
  refine r_istore_n dX12_claims_13 (Nat.le_of_ble_eq_true rfl) (ls2 := [some (.ref 47), some (.int r2), some (.int 0), none, none, none]) rfl ?_
  refine r_iconst dX12_claims_14 (v := 1) rfl ?_
  refine r_istore_n dX12_claims_15 (Nat.le_of_ble_eq_true rfl) (ls2 := [some (.ref 47), some (.int r2), some (.int 0), some (.int 1), none, none]) rfl ?_
  refine r_iload_n dX12_claims_16 rfl ?_
  refine r_if_le dX12_claims_17 (tgt := 24) rfl ?_ ?_
  · refine r_iconst dX12_claims_24 (v := 0) rfl ?_
    refine r_istore dX12_claims_25 (Nat.le_of_ble_eq_true rfl) (ls2 := [some (.ref 47), some (.int r2), some (.int 0), some (.int 1), some (.int 0), none]) rfl ?_
    refine r_mk [true, false, true, true, true, false] (ls2 := [some (.ref 47), none, some (.int 0), some (.int 1), some (.int 0), none]) rfl ?_
    exact sX12_claims_27 FU 0 1 0 u2
  · refine r_iconst dX12_claims_20 (v := 1) rfl ?_
    refine r_goto dX12_claims_21 (tgt := 25) rfl ?_
    refine r_istore dX12_claims_25 (Nat.le_of_ble_eq_true rfl) (ls2 := [some (.ref 47), some (.int r2), some (.int 0), some (.int 1), some (.int 1), none]) rfl ?_
    refine r_mk [true, false, true, true, true, false] (ls2 := [some (.ref 47), none, some (.int 0), some (.int 1), some (.int 1), none]) rfl ?_
    exact sX12_claims_27 FU 0 1 1 u2
theorem okX12_claims (u : US) : ∀ r, fX12_claims u = some r → MetC mX12_claims 401 [.ref 47] u (tI r) :=
  met_of (by decide +kernel) (Nat.le_of_ble_eq_true rfl) rfl (sX12_claims u)
def fX12_codes (v1 : Int32) (u : US) : Option (US) :=
  gd (inb (gI u 47 27) 80) (nx (sA u 60 (gI u 47 27) v1) fun u1 => nx (sI u1 47 27 ((gI u1 47 27) + 1)) fun u2 => some u2)
set_option maxRecDepth 20000 in
theorem sX12_codes (v1 : Int32) (u : US) : Sim tV mX12_codes 0 (fX12_codes v1 u) 0 [some (.ref 47), some (.int v1)] [] u := by
  unfold fX12_codes
  refine r_aload_n dX12_codes_0 rfl ?_
  refine r_get 47 25 flX12_64 rfl (v := .ref 60) rfl dX12_codes_1 ?_
  refine r_aload_n dX12_codes_4 rfl ?_
  refine r_get 47 27 flX12_261 rfl (v := .int (gI u 47 27)) rfl dX12_codes_5 ?_
  refine r_iload_n dX12_codes_8 rfl ?_
  refine r_iast 60 rfl dX12_codes_9 (r_nx (fun u1 => ?_))
  refine r_aload_n dX12_codes_10 rfl ?_
  refine r_dup dX12_codes_11 rfl ?_
  refine r_get 47 27 flX12_261 rfl (v := .int (gI u1 47 27)) rfl dX12_codes_12 ?_
  refine r_iconst dX12_codes_15 (v := 1) rfl ?_
  refine r_iadd dX12_codes_16 ?_
  refine r_put 47 27 fpX12_261 rfl rfl dX12_codes_17 (r_nx (fun u2 => ?_))
  exact r_return rfl dX12_codes_20
theorem okX12_codes (v1 : Int32) (u : US) : ∀ r, fX12_codes v1 u = some r → MetC mX12_codes 0 [.ref 47, .int v1] u (tV r) :=
  met_of (by decide +kernel) (Nat.le_of_ble_eq_true rfl) rfl (sX12_codes v1 u)
def fX12_count_9 (v1 : Int32) : Nat → Int32 → Int32 → US → Option (Int32 × US)
  | 0, _, _, _ => none
  | n + 1, v2, v3, u => (if (gI u 47 6) ≤ v3 then (if v1 = 0 then some (gI u 47 3, u) else (if v1 = 1 then some (gI u 47 4, u) else (if v1 = 2 then some (gI u 47 5, u) else (if v1 = 3 then some (gI u 47 6, u) else (if v1 = 4 then some (gI u 47 7, u) else (if v1 = 5 then gd (inb 25 26) (some (gA u 55 25, u)) else (if v1 = 6 then gd (inb 24 26) (some (gA u 55 24, u)) else (if v1 = 7 then some (v2, u) else (if v1 = 8 then some (gI u 47 43, u) else (if v1 = 9 then some (gI u 47 30, u) else (if v1 = 10 then some (gI u 47 1, u) else (if v1 = 11 then some (gI u 47 18, u) else some ((-100), u))))))))))))) else gd (inb (16 + v3) 26) ((if (gA u 55 (16 + v3)) < 0 then fX12_count_9 v1 n (v2 ||| 0) (v3 + 1) u else fX12_count_9 v1 n (v2 ||| (1 <<< (v3 &&& 31))) (v3 + 1) u)))
set_option maxRecDepth 20000 in
theorem sX12_count_9 (v1 : Int32) : ∀ (n : Nat) (v2 : Int32) (v3 : Int32) (u : US), Sim tI mX12_count 0 (fX12_count_9 v1 n v2 v3 u) 9 [some (.ref 47), some (.int v1), some (.int v2), some (.int v3)] [] u := by
  intro n
  induction n with
  | zero =>
    intro v2 v3 u
    rw [fX12_count_9.eq_1]
    exact r_none
  | succ n ih =>
    intro v2 v3 u
    rw [fX12_count_9.eq_2]
    refine r_iload_n dX12_count_9 rfl ?_
    refine r_aload_n dX12_count_10 rfl ?_
    refine r_get 47 6 flX12_147 rfl (v := .int (gI u 47 6)) rfl dX12_count_11 ?_
    refine r_icmp_ge dX12_count_14 (tgt := 45) rfl ?_ ?_
    · refine r_iload_n dX12_count_45 rfl ?_
      refine r_ite (fun hc0 => ?_) (fun hc0 => ?_)
      · refine r_tabIn dX12_count_46 (off := 62) (by rw [hc0]; decide) (by rw [hc0]; decide) (by rw [hc0]; rfl) (tgt := 108) rfl ?_
        refine r_aload_n dX12_count_108 rfl ?_
        refine r_get 47 3 flX12_24 rfl (v := .int (gI u 47 3)) rfl dX12_count_109 ?_
        exact r_ireturn rfl dX12_count_112
      refine r_ite (fun hc1 => ?_) (fun hc1 => ?_)
      · refine r_tabIn dX12_count_46 (off := 67) (by rw [hc1]; decide) (by rw [hc1]; decide) (by rw [hc1]; rfl) (tgt := 113) rfl ?_
        refine r_aload_n dX12_count_113 rfl ?_
        refine r_get 47 4 flX12_27 rfl (v := .int (gI u 47 4)) rfl dX12_count_114 ?_
        exact r_ireturn rfl dX12_count_117
      refine r_ite (fun hc2 => ?_) (fun hc2 => ?_)
      · refine r_tabIn dX12_count_46 (off := 72) (by rw [hc2]; decide) (by rw [hc2]; decide) (by rw [hc2]; rfl) (tgt := 118) rfl ?_
        refine r_aload_n dX12_count_118 rfl ?_
        refine r_get 47 5 flX12_140 rfl (v := .int (gI u 47 5)) rfl dX12_count_119 ?_
        exact r_ireturn rfl dX12_count_122
      refine r_ite (fun hc3 => ?_) (fun hc3 => ?_)
      · refine r_tabIn dX12_count_46 (off := 77) (by rw [hc3]; decide) (by rw [hc3]; decide) (by rw [hc3]; rfl) (tgt := 123) rfl ?_
        refine r_aload_n dX12_count_123 rfl ?_
        refine r_get 47 6 flX12_147 rfl (v := .int (gI u 47 6)) rfl dX12_count_124 ?_
        exact r_ireturn rfl dX12_count_127
      refine r_ite (fun hc4 => ?_) (fun hc4 => ?_)
      · refine r_tabIn dX12_count_46 (off := 82) (by rw [hc4]; decide) (by rw [hc4]; decide) (by rw [hc4]; rfl) (tgt := 128) rfl ?_
        refine r_aload_n dX12_count_128 rfl ?_
        refine r_get 47 7 flX12_150 rfl (v := .int (gI u 47 7)) rfl dX12_count_129 ?_
        exact r_ireturn rfl dX12_count_132
      refine r_ite (fun hc5 => ?_) (fun hc5 => ?_)
      · refine r_tabIn dX12_count_46 (off := 87) (by rw [hc5]; decide) (by rw [hc5]; decide) (by rw [hc5]; rfl) (tgt := 133) rfl ?_
        refine r_aload_n dX12_count_133 rfl ?_
        refine r_get 47 15 flX12_49 rfl (v := .ref 55) rfl dX12_count_134 ?_
        refine r_bipush dX12_count_137 (v := 25) rfl ?_
        refine r_iald 55 rfl dX12_count_139 ?_
        exact r_ireturn rfl dX12_count_140
      refine r_ite (fun hc6 => ?_) (fun hc6 => ?_)
      · refine r_tabIn dX12_count_46 (off := 95) (by rw [hc6]; decide) (by rw [hc6]; decide) (by rw [hc6]; rfl) (tgt := 141) rfl ?_
        refine r_aload_n dX12_count_141 rfl ?_
        refine r_get 47 15 flX12_49 rfl (v := .ref 55) rfl dX12_count_142 ?_
        refine r_bipush dX12_count_145 (v := 24) rfl ?_
        refine r_iald 55 rfl dX12_count_147 ?_
        exact r_ireturn rfl dX12_count_148
      refine r_ite (fun hc7 => ?_) (fun hc7 => ?_)
      · refine r_tabIn dX12_count_46 (off := 103) (by rw [hc7]; decide) (by rw [hc7]; decide) (by rw [hc7]; rfl) (tgt := 149) rfl ?_
        refine r_iload_n dX12_count_149 rfl ?_
        exact r_ireturn rfl dX12_count_150
      refine r_ite (fun hc8 => ?_) (fun hc8 => ?_)
      · refine r_tabIn dX12_count_46 (off := 105) (by rw [hc8]; decide) (by rw [hc8]; decide) (by rw [hc8]; rfl) (tgt := 151) rfl ?_
        refine r_aload_n dX12_count_151 rfl ?_
        refine r_get 47 43 flX12_212 rfl (v := .int (gI u 47 43)) rfl dX12_count_152 ?_
        exact r_ireturn rfl dX12_count_155
      refine r_ite (fun hc9 => ?_) (fun hc9 => ?_)
      · refine r_tabIn dX12_count_46 (off := 110) (by rw [hc9]; decide) (by rw [hc9]; decide) (by rw [hc9]; rfl) (tgt := 156) rfl ?_
        refine r_aload_n dX12_count_156 rfl ?_
        refine r_get 47 30 flX12_215 rfl (v := .int (gI u 47 30)) rfl dX12_count_157 ?_
        exact r_ireturn rfl dX12_count_160
      refine r_ite (fun hc10 => ?_) (fun hc10 => ?_)
      · refine r_tabIn dX12_count_46 (off := 115) (by rw [hc10]; decide) (by rw [hc10]; decide) (by rw [hc10]; rfl) (tgt := 161) rfl ?_
        refine r_aload_n dX12_count_161 rfl ?_
        refine r_get 47 1 flX12_15 rfl (v := .int (gI u 47 1)) rfl dX12_count_162 ?_
        exact r_ireturn rfl dX12_count_165
      refine r_ite (fun hc11 => ?_) (fun hc11 => ?_)
      · refine r_tabIn dX12_count_46 (off := 120) (by rw [hc11]; decide) (by rw [hc11]; decide) (by rw [hc11]; rfl) (tgt := 166) rfl ?_
        refine r_aload_n dX12_count_166 rfl ?_
        refine r_get 47 18 flX12_159 rfl (v := .int (gI u 47 18)) rfl dX12_count_167 ?_
        exact r_ireturn rfl dX12_count_170
      have hn0 := ne_int hc0
      have hn1 := ne_int hc1
      have hn2 := ne_int hc2
      have hn3 := ne_int hc3
      have hn4 := ne_int hc4
      have hn5 := ne_int hc5
      have hn6 := ne_int hc6
      have hn7 := ne_int hc7
      have hn8 := ne_int hc8
      have hn9 := ne_int hc9
      have hn10 := ne_int hc10
      have hn11 := ne_int hc11
      rw [show (0 : Int32).toInt = 0 from rfl] at hn0
      rw [show (1 : Int32).toInt = 1 from rfl] at hn1
      rw [show (2 : Int32).toInt = 2 from rfl] at hn2
      rw [show (3 : Int32).toInt = 3 from rfl] at hn3
      rw [show (4 : Int32).toInt = 4 from rfl] at hn4
      rw [show (5 : Int32).toInt = 5 from rfl] at hn5
      rw [show (6 : Int32).toInt = 6 from rfl] at hn6
      rw [show (7 : Int32).toInt = 7 from rfl] at hn7
      rw [show (8 : Int32).toInt = 8 from rfl] at hn8
      rw [show (9 : Int32).toInt = 9 from rfl] at hn9
      rw [show (10 : Int32).toInt = 10 from rfl] at hn10
      rw [show (11 : Int32).toInt = 11 from rfl] at hn11
      refine r_tabOut dX12_count_46 (by omega) (tgt := 171) rfl ?_
      refine r_bipush dX12_count_171 (v := -100) rfl ?_
      exact r_ireturn rfl dX12_count_173
    · refine r_iload_n dX12_count_17 rfl ?_
      refine r_aload_n dX12_count_18 rfl ?_
      refine r_get 47 15 flX12_49 rfl (v := .ref 55) rfl dX12_count_19 ?_
      refine r_bipush dX12_count_22 (v := 16) rfl ?_
      refine r_iload_n dX12_count_24 rfl ?_
      refine r_iadd dX12_count_25 ?_
      refine r_iald 55 rfl dX12_count_26 ?_
      refine r_if_lt dX12_count_27 (tgt := 36) rfl ?_ ?_
      · refine r_iconst dX12_count_36 (v := 0) rfl ?_
        refine r_ior dX12_count_37 ?_
        refine r_istore_n dX12_count_38 (Nat.le_of_ble_eq_true rfl) (ls2 := [some (.ref 47), some (.int v1), some (.int (v2 ||| 0)), some (.int v3)]) rfl ?_
        refine r_iinc dX12_count_39 (Nat.le_of_ble_eq_true rfl) rfl (v := v3 + 1) rfl (ls2 := [some (.ref 47), some (.int v1), some (.int (v2 ||| 0)), some (.int (v3 + 1))]) rfl ?_
        refine r_goto dX12_count_42 (tgt := 9) rfl ?_
        exact ih (v2 ||| 0) (v3 + 1) u
      · refine r_iconst dX12_count_30 (v := 1) rfl ?_
        refine r_iload_n dX12_count_31 rfl ?_
        refine r_ishl dX12_count_32 ?_
        refine r_goto dX12_count_33 (tgt := 37) rfl ?_
        refine r_ior dX12_count_37 ?_
        refine r_istore_n dX12_count_38 (Nat.le_of_ble_eq_true rfl) (ls2 := [some (.ref 47), some (.int v1), some (.int (v2 ||| (1 <<< (v3 &&& 31)))), some (.int v3)]) rfl ?_
        refine r_iinc dX12_count_39 (Nat.le_of_ble_eq_true rfl) rfl (v := v3 + 1) rfl (ls2 := [some (.ref 47), some (.int v1), some (.int (v2 ||| (1 <<< (v3 &&& 31)))), some (.int (v3 + 1))]) rfl ?_
        refine r_goto dX12_count_42 (tgt := 9) rfl ?_
        exact ih (v2 ||| (1 <<< (v3 &&& 31))) (v3 + 1) u
def fX12_count (v1 : Int32) (u : US) : Option (Int32 × US) :=
  nx (sI u 47 0 0) fun u1 => fX12_count_9 v1 FU 0 0 u1
set_option maxRecDepth 20000 in
theorem sX12_count (v1 : Int32) (u : US) : Sim tI mX12_count 0 (fX12_count v1 u) 0 [some (.ref 47), some (.int v1), none, none] [] u := by
  unfold fX12_count
  refine r_aload_n dX12_count_0 rfl ?_
  refine r_iconst dX12_count_1 (v := 0) rfl ?_
  refine r_put 47 0 fpX12_3 rfl rfl dX12_count_2 (r_nx (fun u1 => ?_))
  refine r_iconst dX12_count_5 (v := 0) rfl ?_
  refine r_istore_n dX12_count_6 (Nat.le_of_ble_eq_true rfl) (ls2 := [some (.ref 47), some (.int v1), some (.int 0), none]) rfl ?_
  refine r_iconst dX12_count_7 (v := 0) rfl ?_
  refine r_istore_n dX12_count_8 (Nat.le_of_ble_eq_true rfl) (ls2 := [some (.ref 47), some (.int v1), some (.int 0), some (.int 0)]) rfl ?_
  exact sX12_count_9 v1 FU 0 0 u1
theorem okX12_count (v1 : Int32) (u : US) : ∀ r, fX12_count v1 u = some r → MetC mX12_count 0 [.ref 47, .int v1] u (tI r) :=
  met_of (by decide +kernel) (Nat.le_of_ble_eq_true rfl) rfl (sX12_count v1 u)
def fX12_isBeing (v1 : Int32) (v2 : Int32) (u : US) : Option (Int32 × US) :=
  oB (fX12_in ((v1 : Int32).toInt64) 0 7 u) fun r1 u1 => (if r1 = 0 then some (0, u1) else oB (fX12_in ((v2 : Int32).toInt64) 0 9 u1) fun r2 u2 => (if r2 = 0 then some (0, u2) else some (1, u2)))
set_option maxRecDepth 20000 in
theorem sX12_isBeing (v1 : Int32) (v2 : Int32) (u : US) : Sim tI mX12_isBeing 1 (fX12_isBeing v1 v2 u) 0 [some (.ref 47), some (.int v1), some (.int v2)] [] u := by
  unfold fX12_isBeing
  refine r_iload_n dX12_isBeing_0 rfl ?_
  refine r_i2l dX12_isBeing_1 ?_
  refine r_lconst dX12_isBeing_2 (v := 0) rfl ?_
  refine r_ldc2 dX12_isBeing_3 kJX12_414 ?_
  refine c_SI (As := [.long ((v1 : Int32).toInt64), .long 0, .long 7]) ksX12_143 (by decide) (okX12_in ((v1 : Int32).toInt64) 0 7 u) rfl (Nat.le_of_ble_eq_true rfl) rfl dX12_isBeing_6 (fun r1 u1 => ?_)
  refine r_if_eq dX12_isBeing_9 (tgt := 28) rfl ?_ ?_
  · refine r_iconst dX12_isBeing_28 (v := 0) rfl ?_
    exact r_zreturn0 rfl dX12_isBeing_29
  · refine r_iload_n dX12_isBeing_12 rfl ?_
    refine r_i2l dX12_isBeing_13 ?_
    refine r_lconst dX12_isBeing_14 (v := 0) rfl ?_
    refine r_ldc2 dX12_isBeing_15 kJX12_416 ?_
    refine c_SI (As := [.long ((v2 : Int32).toInt64), .long 0, .long 9]) ksX12_143 (by decide) (okX12_in ((v2 : Int32).toInt64) 0 9 u1) rfl (Nat.le_of_ble_eq_true rfl) rfl dX12_isBeing_18 (fun r2 u2 => ?_)
    refine r_if_eq dX12_isBeing_21 (tgt := 28) rfl ?_ ?_
    · refine r_iconst dX12_isBeing_28 (v := 0) rfl ?_
      exact r_zreturn0 rfl dX12_isBeing_29
    · refine r_iconst dX12_isBeing_24 (v := 1) rfl ?_
      refine r_goto dX12_isBeing_25 (tgt := 29) rfl ?_
      exact r_zreturn1 rfl dX12_isBeing_29
theorem okX12_isBeing (v1 : Int32) (v2 : Int32) (u : US) : ∀ r, fX12_isBeing v1 v2 u = some r → MetC mX12_isBeing 1 [.ref 47, .int v1, .int v2] u (tI r) :=
  met_of (by decide +kernel) (Nat.le_of_ble_eq_true rfl) rfl (sX12_isBeing v1 v2 u)
def fX12_isSeen_6 (v1 : Nat) (v2 : Int32) (v3 : Int32) (v4 : Int32) : Nat → Int32 → Int32 → US → Option (Int32 × US)
  | 0, _, _, _ => none
  | n + 1, v5, v6, u => (if (gI u 47 7) ≤ v6 then gd (isB v5) (some (v5, u)) else (if v5 = 0 then oB (fX12_isNear v6 v2 u) fun r1 u1 => (if r1 = 0 then fX12_isSeen_6 v1 v2 v3 v4 n 0 (v6 + 1) u1 else oB (fX12_panesOf v1 v6 u1) fun r2 u2 => oB (fX12_letsSome v1 r2 v3 v4 u2) fun r3 u3 => (if r3 = 0 then fX12_isSeen_6 v1 v2 v3 v4 n 0 (v6 + 1) u3 else fX12_isSeen_6 v1 v2 v3 v4 n 1 (v6 + 1) u3)) else fX12_isSeen_6 v1 v2 v3 v4 n 1 (v6 + 1) u))
set_option maxRecDepth 20000 in
theorem sX12_isSeen_6 (v1 : Nat) (v2 : Int32) (v3 : Int32) (v4 : Int32) (h1 : okA v1 20 = true) : ∀ (n : Nat) (v5 : Int32) (v6 : Int32) (u : US), Sim tI mX12_isSeen 7 (fX12_isSeen_6 v1 v2 v3 v4 n v5 v6 u) 6 [some (.ref 47), some (.ref v1), some (.int v2), some (.int v3), some (.int v4), some (.int v5), some (.int v6)] [] u := by
  intro n
  induction n with
  | zero =>
    intro v5 v6 u
    rw [fX12_isSeen_6.eq_1]
    exact r_none
  | succ n ih =>
    intro v5 v6 u
    rw [fX12_isSeen_6.eq_2]
    refine r_iload dX12_isSeen_6 rfl ?_
    refine r_aload_n dX12_isSeen_8 rfl ?_
    refine r_get 47 7 flX12_150 rfl (v := .int (gI u 47 7)) rfl dX12_isSeen_9 ?_
    refine r_icmp_ge dX12_isSeen_12 (tgt := 61) rfl ?_ ?_
    · refine r_iload dX12_isSeen_61 rfl ?_
      exact r_zreturn rfl dX12_isSeen_63
    · refine r_iload dX12_isSeen_15 rfl ?_
      refine r_if_ne dX12_isSeen_17 (tgt := 48) rfl ?_ ?_
      · refine r_iconst dX12_isSeen_48 (v := 1) rfl ?_
        refine r_goto dX12_isSeen_49 (tgt := 53) rfl ?_
        refine r_istore dX12_isSeen_53 (Nat.le_of_ble_eq_true rfl) (ls2 := [some (.ref 47), some (.ref v1), some (.int v2), some (.int v3), some (.int v4), some (.int 1), some (.int v6)]) rfl ?_
        refine r_iinc dX12_isSeen_55 (Nat.le_of_ble_eq_true rfl) rfl (v := v6 + 1) rfl (ls2 := [some (.ref 47), some (.ref v1), some (.int v2), some (.int v3), some (.int v4), some (.int 1), some (.int (v6 + 1))]) rfl ?_
        refine r_goto dX12_isSeen_58 (tgt := 6) rfl ?_
        exact ih 1 (v6 + 1) u
      · refine r_aload_n dX12_isSeen_20 rfl ?_
        refine r_iload dX12_isSeen_21 rfl ?_
        refine r_iload_n dX12_isSeen_23 rfl ?_
        refine c_VI (As := [.int v6, .int v2]) kvX12_315 rfl (by decide) (okX12_isNear v6 v2 u) rfl (Nat.le_of_ble_eq_true rfl) rfl dX12_isSeen_24 (fun r1 u1 => ?_)
        refine r_if_eq dX12_isSeen_27 (tgt := 52) rfl ?_ ?_
        · refine r_iconst dX12_isSeen_52 (v := 0) rfl ?_
          refine r_istore dX12_isSeen_53 (Nat.le_of_ble_eq_true rfl) (ls2 := [some (.ref 47), some (.ref v1), some (.int v2), some (.int v3), some (.int v4), some (.int 0), some (.int v6)]) rfl ?_
          refine r_iinc dX12_isSeen_55 (Nat.le_of_ble_eq_true rfl) rfl (v := v6 + 1) rfl (ls2 := [some (.ref 47), some (.ref v1), some (.int v2), some (.int v3), some (.int v4), some (.int 0), some (.int (v6 + 1))]) rfl ?_
          refine r_goto dX12_isSeen_58 (tgt := 6) rfl ?_
          exact ih 0 (v6 + 1) u1
        · refine r_aload_n dX12_isSeen_30 rfl ?_
          refine r_aload_n dX12_isSeen_31 rfl ?_
          refine r_aload_n dX12_isSeen_32 rfl ?_
          refine r_aload_n dX12_isSeen_33 rfl ?_
          refine r_iload dX12_isSeen_34 rfl ?_
          refine c_VI (As := [.ref v1, .int v6]) kvX12_325 rfl (by decide) (okX12_panesOf v1 v6 u1) rfl (Nat.le_of_ble_eq_true rfl) rfl dX12_isSeen_36 (fun r2 u2 => ?_)
          refine r_iload_n dX12_isSeen_39 rfl ?_
          refine r_iload dX12_isSeen_40 rfl ?_
          refine c_VI (As := [.ref v1, .int r2, .int v3, .int v4]) kvX12_322 rfl (by decide) (okX12_letsSome v1 r2 v3 v4 u2) rfl (Nat.le_of_ble_eq_true rfl) rfl dX12_isSeen_42 (fun r3 u3 => ?_)
          refine r_if_eq dX12_isSeen_45 (tgt := 52) rfl ?_ ?_
          · refine r_iconst dX12_isSeen_52 (v := 0) rfl ?_
            refine r_istore dX12_isSeen_53 (Nat.le_of_ble_eq_true rfl) (ls2 := [some (.ref 47), some (.ref v1), some (.int v2), some (.int v3), some (.int v4), some (.int 0), some (.int v6)]) rfl ?_
            refine r_iinc dX12_isSeen_55 (Nat.le_of_ble_eq_true rfl) rfl (v := v6 + 1) rfl (ls2 := [some (.ref 47), some (.ref v1), some (.int v2), some (.int v3), some (.int v4), some (.int 0), some (.int (v6 + 1))]) rfl ?_
            refine r_goto dX12_isSeen_58 (tgt := 6) rfl ?_
            exact ih 0 (v6 + 1) u3
          · refine r_iconst dX12_isSeen_48 (v := 1) rfl ?_
            refine r_goto dX12_isSeen_49 (tgt := 53) rfl ?_
            refine r_istore dX12_isSeen_53 (Nat.le_of_ble_eq_true rfl) (ls2 := [some (.ref 47), some (.ref v1), some (.int v2), some (.int v3), some (.int v4), some (.int 1), some (.int v6)]) rfl ?_
            refine r_iinc dX12_isSeen_55 (Nat.le_of_ble_eq_true rfl) rfl (v := v6 + 1) rfl (ls2 := [some (.ref 47), some (.ref v1), some (.int v2), some (.int v3), some (.int v4), some (.int 1), some (.int (v6 + 1))]) rfl ?_
            refine r_goto dX12_isSeen_58 (tgt := 6) rfl ?_
            exact ih 1 (v6 + 1) u3
def fX12_isSeen (v1 : Nat) (v2 : Int32) (v3 : Int32) (v4 : Int32) (u : US) : Option (Int32 × US) :=
  gd (okA v1 20) (fX12_isSeen_6 v1 v2 v3 v4 FU 0 0 u)
set_option maxRecDepth 20000 in
theorem sX12_isSeen (v1 : Nat) (v2 : Int32) (v3 : Int32) (v4 : Int32) (u : US) : Sim tI mX12_isSeen 7 (fX12_isSeen v1 v2 v3 v4 u) 0 [some (.ref 47), some (.ref v1), some (.int v2), some (.int v3), some (.int v4), none, none] [] u := by
  unfold fX12_isSeen
  refine r_gd (fun h1 => ?_)
  refine r_iconst dX12_isSeen_0 (v := 0) rfl ?_
  refine r_istore dX12_isSeen_1 (Nat.le_of_ble_eq_true rfl) (ls2 := [some (.ref 47), some (.ref v1), some (.int v2), some (.int v3), some (.int v4), some (.int 0), none]) rfl ?_
  refine r_iconst dX12_isSeen_3 (v := 0) rfl ?_
  refine r_istore dX12_isSeen_4 (Nat.le_of_ble_eq_true rfl) (ls2 := [some (.ref 47), some (.ref v1), some (.int v2), some (.int v3), some (.int v4), some (.int 0), some (.int 0)]) rfl ?_
  exact sX12_isSeen_6 v1 v2 v3 v4 h1 FU 0 0 u
theorem okX12_isSeen (v1 : Nat) (v2 : Int32) (v3 : Int32) (v4 : Int32) (u : US) : ∀ r, fX12_isSeen v1 v2 v3 v4 u = some r → MetC mX12_isSeen 7 [.ref 47, .ref v1, .int v2, .int v3, .int v4] u (tI r) :=
  met_of (by decide +kernel) (Nat.le_of_ble_eq_true rfl) rfl (sX12_isSeen v1 v2 v3 v4 u)
def fX12_laysDark_43 (v1 : Nat) (v2 : Int32) (v3 : Int32) (k6 : Int32 → Int32 → US → Option (Int32 × US)) (v4 : Int32) (v5 : Int32) (s1 : Int32) (s2 : Int32) (u : US) : Option (Int32 × US) :=
  gd (inb s1 36) (nx (sA u 70 s1 (vp_nar .boolean s2)) fun u1 => gd (inb v5 36) (oB (fX12_flag (gA u1 70 v5) u1) fun r2 u2 => k6 (v4 + r2) (v5 + 1) u2))
set_option maxRecDepth 20000 in
theorem sX12_laysDark_43 (v1 : Nat) (v2 : Int32) (v3 : Int32) (h1 : okA v1 20 = true) (k6 : Int32 → Int32 → US → Option (Int32 × US)) (hk6 : ∀ (v4 : Int32) (v5 : Int32) (u : US), Sim tI mX12_laysDark 8 (k6 v4 v5 u) 6 [some (.ref 47), some (.ref v1), some (.int v2), some (.int v3), some (.int v4), some (.int v5)] [] u) (v4 : Int32) (v5 : Int32) (s1 : Int32) (s2 : Int32) (u : US) : Sim tI mX12_laysDark 8 (fX12_laysDark_43 v1 v2 v3 k6 v4 v5 s1 s2 u) 43 [some (.ref 47), some (.ref v1), some (.int v2), some (.int v3), some (.int v4), some (.int v5)] [.int s2, .int s1, .ref 70] u := by
  unfold fX12_laysDark_43
  refine r_zast 70 rfl dX12_laysDark_43 (r_nx (fun u1 => ?_))
  refine r_iload dX12_laysDark_44 rfl ?_
  refine r_aload_n dX12_laysDark_46 rfl ?_
  refine r_get 47 39 flX12_94 rfl (v := .ref 70) rfl dX12_laysDark_47 ?_
  refine r_iload dX12_laysDark_50 rfl ?_
  refine r_zald 70 rfl dX12_laysDark_52 ?_
  refine c_SI (As := [.int (gA u1 70 v5)]) ksX12_175 (by decide) (okX12_flag (gA u1 70 v5) u1) rfl (Nat.le_of_ble_eq_true rfl) rfl dX12_laysDark_53 (fun r2 u2 => ?_)
  refine r_iadd dX12_laysDark_56 ?_
  refine r_istore dX12_laysDark_57 (Nat.le_of_ble_eq_true rfl) (ls2 := [some (.ref 47), some (.ref v1), some (.int v2), some (.int v3), some (.int (v4 + r2)), some (.int v5)]) rfl ?_
  refine r_iinc dX12_laysDark_59 (Nat.le_of_ble_eq_true rfl) rfl (v := v5 + 1) rfl (ls2 := [some (.ref 47), some (.ref v1), some (.int v2), some (.int v3), some (.int (v4 + r2)), some (.int (v5 + 1))]) rfl ?_
  refine r_goto dX12_laysDark_62 (tgt := 6) rfl ?_
  exact hk6 (v4 + r2) (v5 + 1) u2
def fX12_laysDark_6 (v1 : Nat) (v2 : Int32) (v3 : Int32) : Nat → Int32 → Int32 → US → Option (Int32 × US)
  | 0, _, _, _ => none
  | n + 1, v4, v5, u => (if ((gI u 47 3) * (gI u 47 4)) ≤ v5 then some (v4, u) else oB (fX12_isSeen v1 v5 v2 v3 u) fun r1 u1 => (if r1 = 0 then fX12_laysDark_43 v1 v2 v3 (fX12_laysDark_6 v1 v2 v3 n) v4 v5 v5 1 u1 else fX12_laysDark_43 v1 v2 v3 (fX12_laysDark_6 v1 v2 v3 n) v4 v5 v5 0 u1))
set_option maxRecDepth 20000 in
theorem sX12_laysDark_6 (v1 : Nat) (v2 : Int32) (v3 : Int32) (h1 : okA v1 20 = true) : ∀ (n : Nat) (v4 : Int32) (v5 : Int32) (u : US), Sim tI mX12_laysDark 8 (fX12_laysDark_6 v1 v2 v3 n v4 v5 u) 6 [some (.ref 47), some (.ref v1), some (.int v2), some (.int v3), some (.int v4), some (.int v5)] [] u := by
  intro n
  induction n with
  | zero =>
    intro v4 v5 u
    rw [fX12_laysDark_6.eq_1]
    exact r_none
  | succ n ih =>
    intro v4 v5 u
    rw [fX12_laysDark_6.eq_2]
    refine r_iload dX12_laysDark_6 rfl ?_
    refine r_aload_n dX12_laysDark_8 rfl ?_
    refine r_get 47 3 flX12_24 rfl (v := .int (gI u 47 3)) rfl dX12_laysDark_9 ?_
    refine r_aload_n dX12_laysDark_12 rfl ?_
    refine r_get 47 4 flX12_27 rfl (v := .int (gI u 47 4)) rfl dX12_laysDark_13 ?_
    refine r_imul dX12_laysDark_16 ?_
    refine r_icmp_ge dX12_laysDark_17 (tgt := 65) rfl ?_ ?_
    · refine r_iload dX12_laysDark_65 rfl ?_
      exact r_ireturn rfl dX12_laysDark_67
    · refine r_aload_n dX12_laysDark_20 rfl ?_
      refine r_get 47 39 flX12_94 rfl (v := .ref 70) rfl dX12_laysDark_21 ?_
      refine r_iload dX12_laysDark_24 rfl ?_
      refine r_aload_n dX12_laysDark_26 rfl ?_
      refine r_aload_n dX12_laysDark_27 rfl ?_
      refine r_iload dX12_laysDark_28 rfl ?_
      refine r_iload_n dX12_laysDark_30 rfl ?_
      refine r_iload_n dX12_laysDark_31 rfl ?_
      refine c_VI (As := [.ref v1, .int v5, .int v2, .int v3]) kvX12_418 rfl (by decide) (okX12_isSeen v1 v5 v2 v3 u) rfl (Nat.le_of_ble_eq_true rfl) rfl dX12_laysDark_32 (fun r1 u1 => ?_)
      refine r_if_ne dX12_laysDark_35 (tgt := 42) rfl ?_ ?_
      · refine r_iconst dX12_laysDark_42 (v := 0) rfl ?_
        exact sX12_laysDark_43 v1 v2 v3 h1 (fX12_laysDark_6 v1 v2 v3 n) ih v4 v5 v5 0 u1
      · refine r_iconst dX12_laysDark_38 (v := 1) rfl ?_
        refine r_goto dX12_laysDark_39 (tgt := 43) rfl ?_
        exact sX12_laysDark_43 v1 v2 v3 h1 (fX12_laysDark_6 v1 v2 v3 n) ih v4 v5 v5 1 u1
def fX12_laysDark (v1 : Nat) (v2 : Int32) (v3 : Int32) (u : US) : Option (Int32 × US) :=
  gd (okA v1 20) (fX12_laysDark_6 v1 v2 v3 FU 0 0 u)
set_option maxRecDepth 20000 in
theorem sX12_laysDark (v1 : Nat) (v2 : Int32) (v3 : Int32) (u : US) : Sim tI mX12_laysDark 8 (fX12_laysDark v1 v2 v3 u) 0 [some (.ref 47), some (.ref v1), some (.int v2), some (.int v3), none, none] [] u := by
  unfold fX12_laysDark
  refine r_gd (fun h1 => ?_)
  refine r_iconst dX12_laysDark_0 (v := 0) rfl ?_
  refine r_istore dX12_laysDark_1 (Nat.le_of_ble_eq_true rfl) (ls2 := [some (.ref 47), some (.ref v1), some (.int v2), some (.int v3), some (.int 0), none]) rfl ?_
  refine r_iconst dX12_laysDark_3 (v := 0) rfl ?_
  refine r_istore dX12_laysDark_4 (Nat.le_of_ble_eq_true rfl) (ls2 := [some (.ref 47), some (.ref v1), some (.int v2), some (.int v3), some (.int 0), some (.int 0)]) rfl ?_
  exact sX12_laysDark_6 v1 v2 v3 h1 FU 0 0 u
theorem okX12_laysDark (v1 : Nat) (v2 : Int32) (v3 : Int32) (u : US) : ∀ r, fX12_laysDark v1 v2 v3 u = some r → MetC mX12_laysDark 8 [.ref 47, .ref v1, .int v2, .int v3] u (tI r) :=
  met_of (by decide +kernel) (Nat.le_of_ble_eq_true rfl) rfl (sX12_laysDark v1 v2 v3 u)
def fX12_dark_35 (v1 : Int32) (v2 : Int32) : Nat → Int32 → Int64 → Int32 → US → Option (Int64 × US)
  | 0, _, _, _, _ => none
  | n + 1, v3, v4, v6, u => (if ((gI u 47 3) * (gI u 47 4)) ≤ v6 then nx (sI u 47 1 0) fun u1 => oV (fX12_enters ((v3 : Int32).toInt64) u1) fun u2 => some (v4, u2) else gd (inb v6 36) ((if (gA u 70 v6) = 0 then fX12_dark_35 v1 v2 n v3 (v4 ||| 0) (v6 + 1) u else fX12_dark_35 v1 v2 n v3 (v4 ||| (1 <<< ((v6).toInt64 &&& 63))) (v6 + 1) u)))
set_option maxRecDepth 20000 in
theorem sX12_dark_35 (v1 : Int32) (v2 : Int32) : ∀ (n : Nat) (v3 : Int32) (v4 : Int64) (v6 : Int32) (u : US), Sim tJ mX12_dark 9 (fX12_dark_35 v1 v2 n v3 v4 v6 u) 35 [some (.ref 47), some (.int v1), some (.int v2), some (.int v3), some (.long v4), none, some (.int v6)] [] u := by
  intro n
  induction n with
  | zero =>
    intro v3 v4 v6 u
    rw [fX12_dark_35.eq_1]
    exact r_none
  | succ n ih =>
    intro v3 v4 v6 u
    rw [fX12_dark_35.eq_2]
    refine r_iload dX12_dark_35 rfl ?_
    refine r_aload_n dX12_dark_37 rfl ?_
    refine r_get 47 3 flX12_24 rfl (v := .int (gI u 47 3)) rfl dX12_dark_38 ?_
    refine r_aload_n dX12_dark_41 rfl ?_
    refine r_get 47 4 flX12_27 rfl (v := .int (gI u 47 4)) rfl dX12_dark_42 ?_
    refine r_imul dX12_dark_45 ?_
    refine r_icmp_ge dX12_dark_46 (tgt := 78) rfl ?_ ?_
    · refine r_aload_n dX12_dark_78 rfl ?_
      refine r_iconst dX12_dark_79 (v := 0) rfl ?_
      refine r_put 47 1 fpX12_15 rfl rfl dX12_dark_80 (r_nx (fun u1 => ?_))
      refine r_aload_n dX12_dark_83 rfl ?_
      refine r_iload_n dX12_dark_84 rfl ?_
      refine r_i2l dX12_dark_85 ?_
      refine c_VV (As := [.long ((v3 : Int32).toInt64)]) kvX12_387 rfl (by decide) (okX12_enters ((v3 : Int32).toInt64) u1) rfl (Nat.le_of_ble_eq_true rfl) rfl dX12_dark_86 (fun u2 => ?_)
      refine r_lload dX12_dark_89 rfl ?_
      exact r_lreturn rfl dX12_dark_91
    · refine r_lload dX12_dark_49 rfl ?_
      refine r_aload_n dX12_dark_51 rfl ?_
      refine r_get 47 39 flX12_94 rfl (v := .ref 70) rfl dX12_dark_52 ?_
      refine r_iload dX12_dark_55 rfl ?_
      refine r_zald 70 rfl dX12_dark_57 ?_
      refine r_if_eq dX12_dark_58 (tgt := 68) rfl ?_ ?_
      · refine r_lconst dX12_dark_68 (v := 0) rfl ?_
        refine r_lor dX12_dark_69 ?_
        refine r_lstore dX12_dark_70 (Nat.le_of_ble_eq_true rfl) (ls2 := [some (.ref 47), some (.int v1), some (.int v2), some (.int v3), some (.long (v4 ||| 0)), none, some (.int v6)]) rfl ?_
        refine r_iinc dX12_dark_72 (Nat.le_of_ble_eq_true rfl) rfl (v := v6 + 1) rfl (ls2 := [some (.ref 47), some (.int v1), some (.int v2), some (.int v3), some (.long (v4 ||| 0)), none, some (.int (v6 + 1))]) rfl ?_
        refine r_goto dX12_dark_75 (tgt := 35) rfl ?_
        exact ih v3 (v4 ||| 0) (v6 + 1) u
      · refine r_lconst dX12_dark_61 (v := 1) rfl ?_
        refine r_iload dX12_dark_62 rfl ?_
        refine r_lshl dX12_dark_64 ?_
        refine r_goto dX12_dark_65 (tgt := 69) rfl ?_
        refine r_lor dX12_dark_69 ?_
        refine r_lstore dX12_dark_70 (Nat.le_of_ble_eq_true rfl) (ls2 := [some (.ref 47), some (.int v1), some (.int v2), some (.int v3), some (.long (v4 ||| (1 <<< ((v6).toInt64 &&& 63)))), none, some (.int v6)]) rfl ?_
        refine r_iinc dX12_dark_72 (Nat.le_of_ble_eq_true rfl) rfl (v := v6 + 1) rfl (ls2 := [some (.ref 47), some (.int v1), some (.int v2), some (.int v3), some (.long (v4 ||| (1 <<< ((v6).toInt64 &&& 63)))), none, some (.int (v6 + 1))]) rfl ?_
        refine r_goto dX12_dark_75 (tgt := 35) rfl ?_
        exact ih v3 (v4 ||| (1 <<< ((v6).toInt64 &&& 63))) (v6 + 1) u
def fX12_dark (v1 : Int32) (v2 : Int32) (u : US) : Option (Int64 × US) :=
  nx (sI u 47 0 0) fun u1 => oB (fX12_isBeing v1 v2 u1) fun r2 u2 => (if r2 = 0 then some ((-1), u2) else oB (fX12_laysDark 55 v1 v2 u2) fun r3 u3 => fX12_dark_35 v1 v2 FU r3 0 0 u3)
set_option maxRecDepth 20000 in
theorem sX12_dark (v1 : Int32) (v2 : Int32) (u : US) : Sim tJ mX12_dark 9 (fX12_dark v1 v2 u) 0 [some (.ref 47), some (.int v1), some (.int v2), none, none, none, none] [] u := by
  unfold fX12_dark
  refine r_aload_n dX12_dark_0 rfl ?_
  refine r_iconst dX12_dark_1 (v := 0) rfl ?_
  refine r_put 47 0 fpX12_3 rfl rfl dX12_dark_2 (r_nx (fun u1 => ?_))
  refine r_aload_n dX12_dark_5 rfl ?_
  refine r_iload_n dX12_dark_6 rfl ?_
  refine r_iload_n dX12_dark_7 rfl ?_
  refine c_VI (As := [.int v1, .int v2]) kvX12_421 rfl (by decide) (okX12_isBeing v1 v2 u1) rfl (Nat.le_of_ble_eq_true rfl) rfl dX12_dark_8 (fun r2 u2 => ?_)
  refine r_if_ne dX12_dark_11 (tgt := 18) rfl ?_ ?_
  · refine r_aload_n dX12_dark_18 rfl ?_
    refine r_aload_n dX12_dark_19 rfl ?_
    refine r_get 47 15 flX12_49 rfl (v := .ref 55) rfl dX12_dark_20 ?_
    refine r_iload_n dX12_dark_23 rfl ?_
    refine r_iload_n dX12_dark_24 rfl ?_
    refine c_VI (As := [.ref 55, .int v1, .int v2]) kvX12_424 rfl (by decide) (okX12_laysDark 55 v1 v2 u2) rfl (Nat.le_of_ble_eq_true rfl) rfl dX12_dark_25 (fun r3 u3 => ?_)
    refine r_istore_n dX12_dark_28 (Nat.le_of_ble_eq_true rfl) (ls2 := [some (.ref 47), some (.int v1), some (.int v2), some (.int r3), none, none, none]) rfl ?_
    refine r_lconst dX12_dark_29 (v := 0) rfl ?_
    refine r_lstore dX12_dark_30 (Nat.le_of_ble_eq_true rfl) (ls2 := [some (.ref 47), some (.int v1), some (.int v2), some (.int r3), some (.long 0), none, none]) rfl ?_
    refine r_iconst dX12_dark_32 (v := 0) rfl ?_
    refine r_istore dX12_dark_33 (Nat.le_of_ble_eq_true rfl) (ls2 := [some (.ref 47), some (.int v1), some (.int v2), some (.int r3), some (.long 0), none, some (.int 0)]) rfl ?_
    exact sX12_dark_35 v1 v2 FU r3 0 0 u3
  · refine r_ldc2 dX12_dark_14 kJX12_427 ?_
    exact r_lreturn rfl dX12_dark_17
theorem okX12_dark (v1 : Int32) (v2 : Int32) (u : US) : ∀ r, fX12_dark v1 v2 u = some r → MetC mX12_dark 9 [.ref 47, .int v1, .int v2] u (tJ r) :=
  met_of (by decide +kernel) (Nat.le_of_ble_eq_true rfl) rfl (sX12_dark v1 v2 u)
def fX12_hangs (v1 : Nat) (v2 : Int32) (v3 : Int32) (u : US) : Option (Int32 × US) :=
  gd (okA v1 20) (oB (fX12_isPane v2 u) fun r1 u1 => (if r1 = 0 then some ((-1), u1) else oB (fX12_isRoom v3 u1) fun r2 u2 => (if r2 = 0 then some ((-1), u2) else gd (inb (16 + v2) (ln v1)) ((if (gA u2 v1 (16 + v2)) = v3 then some ((-2), u2) else gd (inb (16 + v2) (ln v1)) (nx (sA u2 v1 (16 + v2) v3) fun u3 => oB (fX12_panesOf v1 v3 u3) fun r4 u4 => oB (fJ6_bitCount_0f7a4 r4 u4) fun r5 u5 => some (r5, u5)))))))
set_option maxRecDepth 20000 in
theorem sX12_hangs (v1 : Nat) (v2 : Int32) (v3 : Int32) (u : US) : Sim tI mX12_hangs 2 (fX12_hangs v1 v2 v3 u) 0 [some (.ref 47), some (.ref v1), some (.int v2), some (.int v3)] [] u := by
  unfold fX12_hangs
  refine r_gd (fun h1 => ?_)
  refine r_aload_n dX12_hangs_0 rfl ?_
  refine r_iload_n dX12_hangs_1 rfl ?_
  refine c_VI (As := [.int v2]) kvX12_343 rfl (by decide) (okX12_isPane v2 u) rfl (Nat.le_of_ble_eq_true rfl) rfl dX12_hangs_2 (fun r1 u1 => ?_)
  refine r_if_eq dX12_hangs_5 (tgt := 16) rfl ?_ ?_
  · refine r_iconst dX12_hangs_16 (v := -1) rfl ?_
    exact r_ireturn rfl dX12_hangs_17
  · refine r_aload_n dX12_hangs_8 rfl ?_
    refine r_iload_n dX12_hangs_9 rfl ?_
    refine c_VI (As := [.int v3]) kvX12_346 rfl (by decide) (okX12_isRoom v3 u1) rfl (Nat.le_of_ble_eq_true rfl) rfl dX12_hangs_10 (fun r2 u2 => ?_)
    refine r_if_ne dX12_hangs_13 (tgt := 18) rfl ?_ ?_
    · refine r_aload_n dX12_hangs_18 rfl ?_
      refine r_bipush dX12_hangs_19 (v := 16) rfl ?_
      refine r_iload_n dX12_hangs_21 rfl ?_
      refine r_iadd dX12_hangs_22 ?_
      refine r_iald v1 h1 dX12_hangs_23 ?_
      refine r_iload_n dX12_hangs_24 rfl ?_
      refine r_icmp_ne dX12_hangs_25 (tgt := 31) rfl ?_ ?_
      · refine r_aload_n dX12_hangs_31 rfl ?_
        refine r_bipush dX12_hangs_32 (v := 16) rfl ?_
        refine r_iload_n dX12_hangs_34 rfl ?_
        refine r_iadd dX12_hangs_35 ?_
        refine r_iload_n dX12_hangs_36 rfl ?_
        refine r_iast v1 h1 dX12_hangs_37 (r_nx (fun u3 => ?_))
        refine r_aload_n dX12_hangs_38 rfl ?_
        refine r_aload_n dX12_hangs_39 rfl ?_
        refine r_iload_n dX12_hangs_40 rfl ?_
        refine c_VI (As := [.ref v1, .int v3]) kvX12_325 rfl (by decide) (okX12_panesOf v1 v3 u3) rfl (Nat.le_of_ble_eq_true rfl) rfl dX12_hangs_41 (fun r4 u4 => ?_)
        refine c_SI (As := [.int r4]) ksX12_300 (by decide) (okJ6_bitCount_0f7a4 r4 u4) rfl (Nat.le_of_ble_eq_true rfl) rfl dX12_hangs_44 (fun r5 u5 => ?_)
        exact r_ireturn rfl dX12_hangs_47
      · refine r_bipush dX12_hangs_28 (v := -2) rfl ?_
        exact r_ireturn rfl dX12_hangs_30
    · refine r_iconst dX12_hangs_16 (v := -1) rfl ?_
      exact r_ireturn rfl dX12_hangs_17
theorem okX12_hangs (v1 : Nat) (v2 : Int32) (v3 : Int32) (u : US) : ∀ r, fX12_hangs v1 v2 v3 u = some r → MetC mX12_hangs 2 [.ref 47, .ref v1, .int v2, .int v3] u (tI r) :=
  met_of (by decide +kernel) (Nat.le_of_ble_eq_true rfl) rfl (sX12_hangs v1 v2 v3 u)
def fX12_takesDown (v1 : Int32) (u : US) : Option (Int32 × US) :=
  oB (fX12_isPane v1 u) fun r1 u1 => (if r1 = 0 then some ((-1), u1) else gd (inb (16 + v1) 26) (gd (inb (16 + v1) 26) (nx (sA u1 55 (16 + v1) (-1)) fun u2 => (if 0 ≤ (gA u1 55 (16 + v1)) then some (gA u1 55 (16 + v1), u2) else some ((-2), u2)))))
set_option maxRecDepth 20000 in
theorem sX12_takesDown (v1 : Int32) (u : US) : Sim tI mX12_takesDown 2 (fX12_takesDown v1 u) 0 [some (.ref 47), some (.int v1), none] [] u := by
  unfold fX12_takesDown
  refine r_aload_n dX12_takesDown_0 rfl ?_
  refine r_iload_n dX12_takesDown_1 rfl ?_
  refine c_VI (As := [.int v1]) kvX12_343 rfl (by decide) (okX12_isPane v1 u) rfl (Nat.le_of_ble_eq_true rfl) rfl dX12_takesDown_2 (fun r1 u1 => ?_)
  refine r_if_ne dX12_takesDown_5 (tgt := 10) rfl ?_ ?_
  · refine r_aload_n dX12_takesDown_10 rfl ?_
    refine r_get 47 15 flX12_49 rfl (v := .ref 55) rfl dX12_takesDown_11 ?_
    refine r_bipush dX12_takesDown_14 (v := 16) rfl ?_
    refine r_iload_n dX12_takesDown_16 rfl ?_
    refine r_iadd dX12_takesDown_17 ?_
    refine r_iald 55 rfl dX12_takesDown_18 ?_
    refine r_istore_n dX12_takesDown_19 (Nat.le_of_ble_eq_true rfl) (ls2 := [some (.ref 47), some (.int v1), some (.int (gA u1 55 (16 + v1)))]) rfl ?_
    refine r_aload_n dX12_takesDown_20 rfl ?_
    refine r_get 47 15 flX12_49 rfl (v := .ref 55) rfl dX12_takesDown_21 ?_
    refine r_bipush dX12_takesDown_24 (v := 16) rfl ?_
    refine r_iload_n dX12_takesDown_26 rfl ?_
    refine r_iadd dX12_takesDown_27 ?_
    refine r_iconst dX12_takesDown_28 (v := -1) rfl ?_
    refine r_iast 55 rfl dX12_takesDown_29 (r_nx (fun u2 => ?_))
    refine r_iload_n dX12_takesDown_30 rfl ?_
    refine r_if_ge dX12_takesDown_31 (tgt := 39) rfl ?_ ?_
    · refine r_iload_n dX12_takesDown_39 rfl ?_
      exact r_ireturn rfl dX12_takesDown_40
    · refine r_bipush dX12_takesDown_34 (v := -2) rfl ?_
      refine r_goto dX12_takesDown_36 (tgt := 40) rfl ?_
      exact r_ireturn rfl dX12_takesDown_40
  · refine r_iconst dX12_takesDown_8 (v := -1) rfl ?_
    exact r_ireturn rfl dX12_takesDown_9
theorem okX12_takesDown (v1 : Int32) (u : US) : ∀ r, fX12_takesDown v1 u = some r → MetC mX12_takesDown 2 [.ref 47, .int v1] u (tI r) :=
  met_of (by decide +kernel) (Nat.le_of_ble_eq_true rfl) rfl (sX12_takesDown v1 u)
def fX12_does_142 (v1 : Int32) (v2 : Int32) (s0 : Int32) (u : US) : Option (Int32 × US) :=
  (if s0 = 0 then some (0, u) else gd (inb v1 60) (gd (inb v1 60) (gd (inb v1 60) (oB (fX12_carries v2 (((gI u 47 4) * (gA u 67 v1)) + (gA u 68 v1)) (gA u 69 v1) u) fun r1 u1 => (if r1 < 0 then some (0, u1) else some (1, u1))))))
set_option maxRecDepth 20000 in
theorem sX12_does_142 (v1 : Int32) (v2 : Int32) (s0 : Int32) (u : US) : Sim tI mX12_does 4 (fX12_does_142 v1 v2 s0 u) 142 [some (.ref 47), some (.int v1), some (.int v2), none] [.int s0] u := by
  unfold fX12_does_142
  refine r_istore_n dX12_does_142 (Nat.le_of_ble_eq_true rfl) (ls2 := [some (.ref 47), some (.int v1), some (.int v2), some (.int s0)]) rfl ?_
  refine r_iload_n dX12_does_143 rfl ?_
  refine r_if_eq dX12_does_144 (tgt := 183) rfl ?_ ?_
  · refine r_iconst dX12_does_183 (v := 0) rfl ?_
    exact r_zreturn0 rfl dX12_does_184
  · refine r_aload_n dX12_does_147 rfl ?_
    refine r_iload_n dX12_does_148 rfl ?_
    refine r_aload_n dX12_does_149 rfl ?_
    refine r_get 47 4 flX12_27 rfl (v := .int (gI u 47 4)) rfl dX12_does_150 ?_
    refine r_aload_n dX12_does_153 rfl ?_
    refine r_get 47 35 flX12_85 rfl (v := .ref 67) rfl dX12_does_154 ?_
    refine r_iload_n dX12_does_157 rfl ?_
    refine r_iald 67 rfl dX12_does_158 ?_
    refine r_imul dX12_does_159 ?_
    refine r_aload_n dX12_does_160 rfl ?_
    refine r_get 47 36 flX12_88 rfl (v := .ref 68) rfl dX12_does_161 ?_
    refine r_iload_n dX12_does_164 rfl ?_
    refine r_iald 68 rfl dX12_does_165 ?_
    refine r_iadd dX12_does_166 ?_
    refine r_aload_n dX12_does_167 rfl ?_
    refine r_get 47 37 flX12_91 rfl (v := .ref 69) rfl dX12_does_168 ?_
    refine r_iload_n dX12_does_171 rfl ?_
    refine r_iald 69 rfl dX12_does_172 ?_
    refine c_VI (As := [.int v2, .int (((gI u 47 4) * (gA u 67 v1)) + (gA u 68 v1)), .int (gA u 69 v1)]) kvX12_382 rfl (by decide) (okX12_carries v2 (((gI u 47 4) * (gA u 67 v1)) + (gA u 68 v1)) (gA u 69 v1) u) rfl (Nat.le_of_ble_eq_true rfl) rfl dX12_does_173 (fun r1 u1 => ?_)
    refine r_if_lt dX12_does_176 (tgt := 183) rfl ?_ ?_
    · refine r_iconst dX12_does_183 (v := 0) rfl ?_
      exact r_zreturn0 rfl dX12_does_184
    · refine r_iconst dX12_does_179 (v := 1) rfl ?_
      refine r_goto dX12_does_180 (tgt := 184) rfl ?_
      exact r_zreturn1 rfl dX12_does_184
def fX12_does_141 (v1 : Int32) (v2 : Int32) (u : US) : Option (Int32 × US) :=
  fX12_does_142 v1 v2 0 u
set_option maxRecDepth 20000 in
theorem sX12_does_141 (v1 : Int32) (v2 : Int32) (u : US) : Sim tI mX12_does 4 (fX12_does_141 v1 v2 u) 141 [some (.ref 47), some (.int v1), some (.int v2), none] [] u := by
  unfold fX12_does_141
  refine r_iconst dX12_does_141 (v := 0) rfl ?_
  exact sX12_does_142 v1 v2 0 u
def fX12_does (v1 : Int32) (u : US) : Option (Int32 × US) :=
  gd (inb v1 60) (gd (inb v1 60) ((if (gA u 65 v1) = 0 then oV (fX12_goesOn 55 (gA u 66 v1) u) fun u1 => some (1, u1) else (if (gA u 65 v1) = 1 then gd (inb v1 60) (oB (fX12_hangs 55 (gA u 66 v1) (gA u 67 v1) u) fun r2 u2 => (if r2 < 0 then some (0, u2) else some (1, u2))) else (if (gA u 65 v1) = 2 then oB (fX12_takesDown (gA u 66 v1) u) fun r3 u3 => (if r3 < 0 then some (0, u3) else some (1, u3)) else (if (gA u 65 v1) = 3 then oB (fX12_breaks 55 (gA u 66 v1) u) fun r4 u4 => (if r4 < 0 then some (0, u4) else some (1, u4)) else gd (inb v1 60) ((if (gI u 47 3) ≤ (gA u 67 v1) then fX12_does_141 v1 (gA u 66 v1) u else gd (inb v1 60) ((if (gI u 47 4) ≤ (gA u 68 v1) then fX12_does_141 v1 (gA u 66 v1) u else fX12_does_142 v1 (gA u 66 v1) 1 u))))))))))
set_option maxRecDepth 20000 in
theorem sX12_does (v1 : Int32) (u : US) : Sim tI mX12_does 4 (fX12_does v1 u) 0 [some (.ref 47), some (.int v1), none, none] [] u := by
  unfold fX12_does
  refine r_aload_n dX12_does_0 rfl ?_
  refine r_get 47 34 flX12_82 rfl (v := .ref 66) rfl dX12_does_1 ?_
  refine r_iload_n dX12_does_4 rfl ?_
  refine r_iald 66 rfl dX12_does_5 ?_
  refine r_istore_n dX12_does_6 (Nat.le_of_ble_eq_true rfl) (ls2 := [some (.ref 47), some (.int v1), some (.int (gA u 66 v1)), none]) rfl ?_
  refine r_aload_n dX12_does_7 rfl ?_
  refine r_get 47 33 flX12_79 rfl (v := .ref 65) rfl dX12_does_8 ?_
  refine r_iload_n dX12_does_11 rfl ?_
  refine r_iald 65 rfl dX12_does_12 ?_
  refine r_ite (fun hc0 => ?_) (fun hc0 => ?_)
  · refine r_tabIn dX12_does_13 (off := 31) (by rw [hc0]; decide) (by rw [hc0]; decide) (by rw [hc0]; rfl) (tgt := 44) rfl ?_
    refine r_aload_n dX12_does_44 rfl ?_
    refine r_aload_n dX12_does_45 rfl ?_
    refine r_get 47 15 flX12_49 rfl (v := .ref 55) rfl dX12_does_46 ?_
    refine r_iload_n dX12_does_49 rfl ?_
    refine c_VV (As := [.ref 55, .int (gA u 66 v1)]) kvX12_396 rfl (by decide) (okX12_goesOn 55 (gA u 66 v1) u) rfl (Nat.le_of_ble_eq_true rfl) rfl dX12_does_50 (fun u1 => ?_)
    refine r_iconst dX12_does_53 (v := 1) rfl ?_
    exact r_zreturn1 rfl dX12_does_54
  refine r_ite (fun hc1 => ?_) (fun hc1 => ?_)
  · refine r_tabIn dX12_does_13 (off := 42) (by rw [hc1]; decide) (by rw [hc1]; decide) (by rw [hc1]; rfl) (tgt := 55) rfl ?_
    refine r_aload_n dX12_does_55 rfl ?_
    refine r_aload_n dX12_does_56 rfl ?_
    refine r_get 47 15 flX12_49 rfl (v := .ref 55) rfl dX12_does_57 ?_
    refine r_iload_n dX12_does_60 rfl ?_
    refine r_aload_n dX12_does_61 rfl ?_
    refine r_get 47 35 flX12_85 rfl (v := .ref 67) rfl dX12_does_62 ?_
    refine r_iload_n dX12_does_65 rfl ?_
    refine r_iald 67 rfl dX12_does_66 ?_
    refine c_VI (As := [.ref 55, .int (gA u 66 v1), .int (gA u 67 v1)]) kvX12_370 rfl (by decide) (okX12_hangs 55 (gA u 66 v1) (gA u 67 v1) u) rfl (Nat.le_of_ble_eq_true rfl) rfl dX12_does_67 (fun r2 u2 => ?_)
    refine r_if_lt dX12_does_70 (tgt := 77) rfl ?_ ?_
    · refine r_iconst dX12_does_77 (v := 0) rfl ?_
      exact r_zreturn0 rfl dX12_does_78
    · refine r_iconst dX12_does_73 (v := 1) rfl ?_
      refine r_goto dX12_does_74 (tgt := 78) rfl ?_
      exact r_zreturn1 rfl dX12_does_78
  refine r_ite (fun hc2 => ?_) (fun hc2 => ?_)
  · refine r_tabIn dX12_does_13 (off := 66) (by rw [hc2]; decide) (by rw [hc2]; decide) (by rw [hc2]; rfl) (tgt := 79) rfl ?_
    refine r_aload_n dX12_does_79 rfl ?_
    refine r_iload_n dX12_does_80 rfl ?_
    refine c_VI (As := [.int (gA u 66 v1)]) kvX12_376 rfl (by decide) (okX12_takesDown (gA u 66 v1) u) rfl (Nat.le_of_ble_eq_true rfl) rfl dX12_does_81 (fun r3 u3 => ?_)
    refine r_if_lt dX12_does_84 (tgt := 91) rfl ?_ ?_
    · refine r_iconst dX12_does_91 (v := 0) rfl ?_
      exact r_zreturn0 rfl dX12_does_92
    · refine r_iconst dX12_does_87 (v := 1) rfl ?_
      refine r_goto dX12_does_88 (tgt := 92) rfl ?_
      exact r_zreturn1 rfl dX12_does_92
  refine r_ite (fun hc3 => ?_) (fun hc3 => ?_)
  · refine r_tabIn dX12_does_13 (off := 80) (by rw [hc3]; decide) (by rw [hc3]; decide) (by rw [hc3]; rfl) (tgt := 93) rfl ?_
    refine r_aload_n dX12_does_93 rfl ?_
    refine r_aload_n dX12_does_94 rfl ?_
    refine r_get 47 15 flX12_49 rfl (v := .ref 55) rfl dX12_does_95 ?_
    refine r_iload_n dX12_does_98 rfl ?_
    refine c_VI (As := [.ref 55, .int (gA u 66 v1)]) kvX12_379 rfl (by decide) (okX12_breaks 55 (gA u 66 v1) u) rfl (Nat.le_of_ble_eq_true rfl) rfl dX12_does_99 (fun r4 u4 => ?_)
    refine r_if_lt dX12_does_102 (tgt := 109) rfl ?_ ?_
    · refine r_iconst dX12_does_109 (v := 0) rfl ?_
      exact r_zreturn0 rfl dX12_does_110
    · refine r_iconst dX12_does_105 (v := 1) rfl ?_
      refine r_goto dX12_does_106 (tgt := 110) rfl ?_
      exact r_zreturn1 rfl dX12_does_110
  have hn0 := ne_int hc0
  have hn1 := ne_int hc1
  have hn2 := ne_int hc2
  have hn3 := ne_int hc3
  rw [show (0 : Int32).toInt = 0 from rfl] at hn0
  rw [show (1 : Int32).toInt = 1 from rfl] at hn1
  rw [show (2 : Int32).toInt = 2 from rfl] at hn2
  rw [show (3 : Int32).toInt = 3 from rfl] at hn3
  refine r_tabOut dX12_does_13 (by omega) (tgt := 111) rfl ?_
  refine r_aload_n dX12_does_111 rfl ?_
  refine r_get 47 35 flX12_85 rfl (v := .ref 67) rfl dX12_does_112 ?_
  refine r_iload_n dX12_does_115 rfl ?_
  refine r_iald 67 rfl dX12_does_116 ?_
  refine r_aload_n dX12_does_117 rfl ?_
  refine r_get 47 3 flX12_24 rfl (v := .int (gI u 47 3)) rfl dX12_does_118 ?_
  refine r_icmp_ge dX12_does_121 (tgt := 141) rfl ?_ ?_
  · exact sX12_does_141 v1 (gA u 66 v1) u
  · refine r_aload_n dX12_does_124 rfl ?_
    refine r_get 47 36 flX12_88 rfl (v := .ref 68) rfl dX12_does_125 ?_
    refine r_iload_n dX12_does_128 rfl ?_
    refine r_iald 68 rfl dX12_does_129 ?_
    refine r_aload_n dX12_does_130 rfl ?_
    refine r_get 47 4 flX12_27 rfl (v := .int (gI u 47 4)) rfl dX12_does_131 ?_
    refine r_icmp_ge dX12_does_134 (tgt := 141) rfl ?_ ?_
    · exact sX12_does_141 v1 (gA u 66 v1) u
    · refine r_iconst dX12_does_137 (v := 1) rfl ?_
      refine r_goto dX12_does_138 (tgt := 142) rfl ?_
      exact sX12_does_142 v1 (gA u 66 v1) 1 u
theorem okX12_does (v1 : Int32) (u : US) : ∀ r, fX12_does v1 u = some r → MetC mX12_does 4 [.ref 47, .int v1] u (tI r) :=
  met_of (by decide +kernel) (Nat.le_of_ble_eq_true rfl) rfl (sX12_does v1 u)
def fX12_faultOf_44 (v1 : Int32) (v2 : Int32) (v3 : Int32) (v4 : Int32) (u : US) : Option (Int32 × US) :=
  (if v4 = 0 then some ((-1) - (gI u 47 19), u) else some (0, u))
set_option maxRecDepth 20000 in
theorem sX12_faultOf_44 (v1 : Int32) (v2 : Int32) (v3 : Int32) (v4 : Int32) (u : US) : Sim tI mX12_faultOf 0 (fX12_faultOf_44 v1 v2 v3 v4 u) 44 [some (.ref 47), some (.int v1), some (.int v2), some (.int v3), some (.int v4)] [] u := by
  unfold fX12_faultOf_44
  refine r_iload dX12_faultOf_44 rfl ?_
  refine r_if_eq dX12_faultOf_46 (tgt := 53) rfl ?_ ?_
  · refine r_iconst dX12_faultOf_53 (v := -1) rfl ?_
    refine r_aload_n dX12_faultOf_54 rfl ?_
    refine r_get 47 19 flX12_162 rfl (v := .int (gI u 47 19)) rfl dX12_faultOf_55 ?_
    refine r_isub dX12_faultOf_58 ?_
    exact r_ireturn rfl dX12_faultOf_59
  · refine r_iconst dX12_faultOf_49 (v := 0) rfl ?_
    refine r_goto dX12_faultOf_50 (tgt := 59) rfl ?_
    exact r_ireturn rfl dX12_faultOf_59
def fX12_faultOf_20 (v1 : Int32) (v2 : Int32) (v3 : Int32) (s0 : Int32) (u : US) : Option (Int32 × US) :=
  (if v1 ≤ v2 then fX12_faultOf_44 v1 v2 v3 s0 u else (if s0 = 0 then (if (gI u 47 19) < v2 then fX12_faultOf_44 v1 v2 v3 s0 u else some ((-1) - v2, u)) else some ((-1) - v2, u)))
set_option maxRecDepth 20000 in
theorem sX12_faultOf_20 (v1 : Int32) (v2 : Int32) (v3 : Int32) (s0 : Int32) (u : US) : Sim tI mX12_faultOf 0 (fX12_faultOf_20 v1 v2 v3 s0 u) 20 [some (.ref 47), some (.int v1), some (.int v2), some (.int v3), none] [.int s0] u := by
  unfold fX12_faultOf_20
  refine r_istore dX12_faultOf_20 (Nat.le_of_ble_eq_true rfl) (ls2 := [some (.ref 47), some (.int v1), some (.int v2), some (.int v3), some (.int s0)]) rfl ?_
  refine r_iload_n dX12_faultOf_22 rfl ?_
  refine r_iload_n dX12_faultOf_23 rfl ?_
  refine r_icmp_le dX12_faultOf_24 (tgt := 44) rfl ?_ ?_
  · exact sX12_faultOf_44 v1 v2 v3 s0 u
  · refine r_iload dX12_faultOf_27 rfl ?_
    refine r_if_ne dX12_faultOf_29 (tgt := 40) rfl ?_ ?_
    · refine r_iconst dX12_faultOf_40 (v := -1) rfl ?_
      refine r_iload_n dX12_faultOf_41 rfl ?_
      refine r_isub dX12_faultOf_42 ?_
      exact r_ireturn rfl dX12_faultOf_43
    · refine r_aload_n dX12_faultOf_32 rfl ?_
      refine r_get 47 19 flX12_162 rfl (v := .int (gI u 47 19)) rfl dX12_faultOf_33 ?_
      refine r_iload_n dX12_faultOf_36 rfl ?_
      refine r_icmp_lt dX12_faultOf_37 (tgt := 44) rfl ?_ ?_
      · exact sX12_faultOf_44 v1 v2 v3 s0 u
      · refine r_iconst dX12_faultOf_40 (v := -1) rfl ?_
        refine r_iload_n dX12_faultOf_41 rfl ?_
        refine r_isub dX12_faultOf_42 ?_
        exact r_ireturn rfl dX12_faultOf_43
def fX12_faultOf_19 (v1 : Int32) (v2 : Int32) (v3 : Int32) (u : US) : Option (Int32 × US) :=
  fX12_faultOf_20 v1 v2 v3 0 u
set_option maxRecDepth 20000 in
theorem sX12_faultOf_19 (v1 : Int32) (v2 : Int32) (v3 : Int32) (u : US) : Sim tI mX12_faultOf 0 (fX12_faultOf_19 v1 v2 v3 u) 19 [some (.ref 47), some (.int v1), some (.int v2), some (.int v3), none] [] u := by
  unfold fX12_faultOf_19
  refine r_iconst dX12_faultOf_19 (v := 0) rfl ?_
  exact sX12_faultOf_20 v1 v2 v3 0 u
def fX12_faultOf (v1 : Int32) (v2 : Int32) (v3 : Int32) (u : US) : Option (Int32 × US) :=
  (if v3 = 0 then fX12_faultOf_19 v1 v2 v3 u else (if (gI u 47 19) = (gI u 47 20) then fX12_faultOf_20 v1 v2 v3 1 u else fX12_faultOf_19 v1 v2 v3 u))
set_option maxRecDepth 20000 in
theorem sX12_faultOf (v1 : Int32) (v2 : Int32) (v3 : Int32) (u : US) : Sim tI mX12_faultOf 0 (fX12_faultOf v1 v2 v3 u) 0 [some (.ref 47), some (.int v1), some (.int v2), some (.int v3), none] [] u := by
  unfold fX12_faultOf
  refine r_iload_n dX12_faultOf_0 rfl ?_
  refine r_if_eq dX12_faultOf_1 (tgt := 19) rfl ?_ ?_
  · exact sX12_faultOf_19 v1 v2 v3 u
  · refine r_aload_n dX12_faultOf_4 rfl ?_
    refine r_get 47 19 flX12_162 rfl (v := .int (gI u 47 19)) rfl dX12_faultOf_5 ?_
    refine r_aload_n dX12_faultOf_8 rfl ?_
    refine r_get 47 20 flX12_172 rfl (v := .int (gI u 47 20)) rfl dX12_faultOf_9 ?_
    refine r_icmp_ne dX12_faultOf_12 (tgt := 19) rfl ?_ ?_
    · exact sX12_faultOf_19 v1 v2 v3 u
    · refine r_iconst dX12_faultOf_15 (v := 1) rfl ?_
      refine r_goto dX12_faultOf_16 (tgt := 20) rfl ?_
      exact sX12_faultOf_20 v1 v2 v3 1 u
theorem okX12_faultOf (v1 : Int32) (v2 : Int32) (v3 : Int32) (u : US) : ∀ r, fX12_faultOf v1 v2 v3 u = some r → MetC mX12_faultOf 0 [.ref 47, .int v1, .int v2, .int v3] u (tI r) :=
  met_of (by decide +kernel) (Nat.le_of_ble_eq_true rfl) rfl (sX12_faultOf v1 v2 v3 u)
def fX12_isDigit (u : US) : Option (Int32 × US) :=
  (if (gI u 47 20) ≤ (gI u 47 19) then some (0, u) else gd (inb (gI u 47 19) 80) (oB (fX12_in ((gA u 57 (gI u 47 19) : Int32).toInt64) 48 57 u) fun r1 u1 => (if r1 = 0 then some (0, u1) else some (1, u1))))
set_option maxRecDepth 20000 in
theorem sX12_isDigit (u : US) : Sim tI mX12_isDigit 1 (fX12_isDigit u) 0 [some (.ref 47)] [] u := by
  unfold fX12_isDigit
  refine r_aload_n dX12_isDigit_0 rfl ?_
  refine r_get 47 19 flX12_162 rfl (v := .int (gI u 47 19)) rfl dX12_isDigit_1 ?_
  refine r_aload_n dX12_isDigit_4 rfl ?_
  refine r_get 47 20 flX12_172 rfl (v := .int (gI u 47 20)) rfl dX12_isDigit_5 ?_
  refine r_icmp_ge dX12_isDigit_8 (tgt := 37) rfl ?_ ?_
  · refine r_iconst dX12_isDigit_37 (v := 0) rfl ?_
    exact r_zreturn0 rfl dX12_isDigit_38
  · refine r_aload_n dX12_isDigit_11 rfl ?_
    refine r_get 47 17 flX12_55 rfl (v := .ref 57) rfl dX12_isDigit_12 ?_
    refine r_aload_n dX12_isDigit_15 rfl ?_
    refine r_get 47 19 flX12_162 rfl (v := .int (gI u 47 19)) rfl dX12_isDigit_16 ?_
    refine r_iald 57 rfl dX12_isDigit_19 ?_
    refine r_i2l dX12_isDigit_20 ?_
    refine r_ldc2 dX12_isDigit_21 kJX12_179 ?_
    refine r_ldc2 dX12_isDigit_24 kJX12_181 ?_
    refine c_SI (As := [.long ((gA u 57 (gI u 47 19) : Int32).toInt64), .long 48, .long 57]) ksX12_143 (by decide) (okX12_in ((gA u 57 (gI u 47 19) : Int32).toInt64) 48 57 u) rfl (Nat.le_of_ble_eq_true rfl) rfl dX12_isDigit_27 (fun r1 u1 => ?_)
    refine r_if_eq dX12_isDigit_30 (tgt := 37) rfl ?_ ?_
    · refine r_iconst dX12_isDigit_37 (v := 0) rfl ?_
      exact r_zreturn0 rfl dX12_isDigit_38
    · refine r_iconst dX12_isDigit_33 (v := 1) rfl ?_
      refine r_goto dX12_isDigit_34 (tgt := 38) rfl ?_
      exact r_zreturn1 rfl dX12_isDigit_38
theorem okX12_isDigit (u : US) : ∀ r, fX12_isDigit u = some r → MetC mX12_isDigit 1 [.ref 47] u (tI r) :=
  met_of (by decide +kernel) (Nat.le_of_ble_eq_true rfl) rfl (sX12_isDigit u)
def fX12_number_13 (v1 : Int32) : Nat → Int32 → Int32 → US → Option (Int32 × US)
  | 0, _, _, _ => none
  | n + 1, v2, v3, u => (if v1 ≤ v3 then some (v2, u) else oB (fX12_isDigit u) fun r1 u1 => (if r1 = 0 then some (v2, u1) else gd (inb (gI u1 47 19) 80) (nx (sI u1 47 19 ((gI u1 47 19) + 1)) fun u2 => fX12_number_13 v1 n (((10 * v2) + (gA u1 57 (gI u1 47 19))) - 48) (v3 + 1) u2)))
set_option maxRecDepth 20000 in
theorem sX12_number_13 (v1 : Int32) : ∀ (n : Nat) (v2 : Int32) (v3 : Int32) (u : US), Sim tI mX12_number 2 (fX12_number_13 v1 n v2 v3 u) 13 [some (.ref 47), some (.int v1), some (.int v2), some (.int v3)] [] u := by
  intro n
  induction n with
  | zero =>
    intro v2 v3 u
    rw [fX12_number_13.eq_1]
    exact r_none
  | succ n ih =>
    intro v2 v3 u
    rw [fX12_number_13.eq_2]
    refine r_iload_n dX12_number_13 rfl ?_
    refine r_iload_n dX12_number_14 rfl ?_
    refine r_icmp_ge dX12_number_15 (tgt := 59) rfl ?_ ?_
    · refine r_iload_n dX12_number_59 rfl ?_
      exact r_ireturn rfl dX12_number_60
    · refine r_aload_n dX12_number_18 rfl ?_
      refine c_VI (As := []) kvX12_197 rfl (by decide) (okX12_isDigit u) rfl (Nat.le_of_ble_eq_true rfl) rfl dX12_number_19 (fun r1 u1 => ?_)
      refine r_if_eq dX12_number_22 (tgt := 59) rfl ?_ ?_
      · refine r_iload_n dX12_number_59 rfl ?_
        exact r_ireturn rfl dX12_number_60
      · refine r_bipush dX12_number_25 (v := 10) rfl ?_
        refine r_iload_n dX12_number_27 rfl ?_
        refine r_imul dX12_number_28 ?_
        refine r_aload_n dX12_number_29 rfl ?_
        refine r_get 47 17 flX12_55 rfl (v := .ref 57) rfl dX12_number_30 ?_
        refine r_aload_n dX12_number_33 rfl ?_
        refine r_get 47 19 flX12_162 rfl (v := .int (gI u1 47 19)) rfl dX12_number_34 ?_
        refine r_iald 57 rfl dX12_number_37 ?_
        refine r_iadd dX12_number_38 ?_
        refine r_bipush dX12_number_39 (v := 48) rfl ?_
        refine r_isub dX12_number_41 ?_
        refine r_istore_n dX12_number_42 (Nat.le_of_ble_eq_true rfl) (ls2 := [some (.ref 47), some (.int v1), some (.int (((10 * v2) + (gA u1 57 (gI u1 47 19))) - 48)), some (.int v3)]) rfl ?_
        refine r_aload_n dX12_number_43 rfl ?_
        refine r_dup dX12_number_44 rfl ?_
        refine r_get 47 19 flX12_162 rfl (v := .int (gI u1 47 19)) rfl dX12_number_45 ?_
        refine r_iconst dX12_number_48 (v := 1) rfl ?_
        refine r_iadd dX12_number_49 ?_
        refine r_put 47 19 fpX12_162 rfl rfl dX12_number_50 (r_nx (fun u2 => ?_))
        refine r_iinc dX12_number_53 (Nat.le_of_ble_eq_true rfl) rfl (v := v3 + 1) rfl (ls2 := [some (.ref 47), some (.int v1), some (.int (((10 * v2) + (gA u1 57 (gI u1 47 19))) - 48)), some (.int (v3 + 1))]) rfl ?_
        refine r_goto dX12_number_56 (tgt := 13) rfl ?_
        exact ih (((10 * v2) + (gA u1 57 (gI u1 47 19))) - 48) (v3 + 1) u2
def fX12_number (v1 : Int32) (u : US) : Option (Int32 × US) :=
  oB (fX12_isDigit u) fun r1 u1 => (if r1 = 0 then some ((-1), u1) else fX12_number_13 v1 FU 0 0 u1)
set_option maxRecDepth 20000 in
theorem sX12_number (v1 : Int32) (u : US) : Sim tI mX12_number 2 (fX12_number v1 u) 0 [some (.ref 47), some (.int v1), none, none] [] u := by
  unfold fX12_number
  refine r_aload_n dX12_number_0 rfl ?_
  refine c_VI (As := []) kvX12_197 rfl (by decide) (okX12_isDigit u) rfl (Nat.le_of_ble_eq_true rfl) rfl dX12_number_1 (fun r1 u1 => ?_)
  refine r_if_ne dX12_number_4 (tgt := 9) rfl ?_ ?_
  · refine r_iconst dX12_number_9 (v := 0) rfl ?_
    refine r_istore_n dX12_number_10 (Nat.le_of_ble_eq_true rfl) (ls2 := [some (.ref 47), some (.int v1), some (.int 0), none]) rfl ?_
    refine r_iconst dX12_number_11 (v := 0) rfl ?_
    refine r_istore_n dX12_number_12 (Nat.le_of_ble_eq_true rfl) (ls2 := [some (.ref 47), some (.int v1), some (.int 0), some (.int 0)]) rfl ?_
    exact sX12_number_13 v1 FU 0 0 u1
  · refine r_iconst dX12_number_7 (v := -1) rfl ?_
    exact r_ireturn rfl dX12_number_8
theorem okX12_number (v1 : Int32) (u : US) : ∀ r, fX12_number v1 u = some r → MetC mX12_number 2 [.ref 47, .int v1] u (tI r) :=
  met_of (by decide +kernel) (Nat.le_of_ble_eq_true rfl) rfl (sX12_number v1 u)
