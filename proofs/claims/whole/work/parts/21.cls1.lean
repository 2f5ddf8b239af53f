def fX8_fields (u : US) : Option (Int32 × US) :=
  some ((gI u 3 0) * (gI u 3 1), u)
set_option maxRecDepth 20000 in
theorem sX8_fields (u : US) : Sim tI mX8_fields 0 (fX8_fields u) 0 [some (.ref 3)] [] u := by
  unfold fX8_fields
  refine r_aload_n dX8_fields_0 rfl ?_
  refine r_get 3 0 flX8_9 rfl (v := .int (gI u 3 0)) rfl dX8_fields_1 ?_
  refine r_aload_n dX8_fields_4 rfl ?_
  refine r_get 3 1 flX8_15 rfl (v := .int (gI u 3 1)) rfl dX8_fields_5 ?_
  refine r_imul dX8_fields_8 ?_
  exact r_ireturn rfl dX8_fields_9
theorem okX8_fields (u : US) : ∀ r, fX8_fields u = some r → MetC mX8_fields 0 [.ref 3] u (tI r) :=
  met_of (by decide +kernel) (Nat.le_of_ble_eq_true rfl) rfl (sX8_fields u)
def fX8_isField (v1 : Int32) (u : US) : Option (Int32 × US) :=
  (if v1 < 0 then some (0, u) else oB (fX8_fields u) fun r1 u1 => (if r1 ≤ v1 then some (0, u1) else some (1, u1)))
set_option maxRecDepth 20000 in
theorem sX8_isField (v1 : Int32) (u : US) : Sim tI mX8_isField 1 (fX8_isField v1 u) 0 [some (.ref 3), some (.int v1)] [] u := by
  unfold fX8_isField
  refine r_iload_n dX8_isField_0 rfl ?_
  refine r_if_lt dX8_isField_1 (tgt := 16) rfl ?_ ?_
  · refine r_iconst dX8_isField_16 (v := 0) rfl ?_
    exact r_zreturn0 rfl dX8_isField_17
  · refine r_iload_n dX8_isField_4 rfl ?_
    refine r_aload_n dX8_isField_5 rfl ?_
    refine c_VI (As := []) kvX8_53 rfl (by decide) (okX8_fields u) rfl (Nat.le_of_ble_eq_true rfl) rfl dX8_isField_6 (fun r1 u1 => ?_)
    refine r_icmp_ge dX8_isField_9 (tgt := 16) rfl ?_ ?_
    · refine r_iconst dX8_isField_16 (v := 0) rfl ?_
      exact r_zreturn0 rfl dX8_isField_17
    · refine r_iconst dX8_isField_12 (v := 1) rfl ?_
      refine r_goto dX8_isField_13 (tgt := 17) rfl ?_
      exact r_zreturn1 rfl dX8_isField_17
theorem okX8_isField (v1 : Int32) (u : US) : ∀ r, fX8_isField v1 u = some r → MetC mX8_isField 1 [.ref 3, .int v1] u (tI r) :=
  met_of (by decide +kernel) (Nat.le_of_ble_eq_true rfl) rfl (sX8_isField v1 u)
def fX11_carryThing (v1 : Int32) (v2 : Int32) (v3 : Int32) (u : US) : Option (Int32 × US) :=
  oB (fX8_isThing v1 u) fun r1 u1 => (if r1 = 0 then some ((-1), u1) else oB (fX8_isField v2 u1) fun r2 u2 => (if r2 = 0 then some ((-1), u2) else (if v3 < 0 then some ((-1), u2) else (if v3 < 5 then gd (inb v1 8) (gd (inb v1 8) (nx (sA u2 22 v1 v2) fun u3 => gd (inb v1 8) (nx (sA u3 23 v1 v3) fun u4 => some (gA u2 22 v1, u4)))) else some ((-1), u2)))))
set_option maxRecDepth 20000 in
theorem sX11_carryThing (v1 : Int32) (v2 : Int32) (v3 : Int32) (u : US) : Sim tI mX11_carryThing 2 (fX11_carryThing v1 v2 v3 u) 0 [some (.ref 0), some (.int v1), some (.int v2), some (.int v3), none] [] u := by
  unfold fX11_carryThing
  refine r_aload_n dX11_carryThing_0 rfl ?_
  refine r_get 0 2 flX11_28 rfl (v := .ref 3) rfl dX11_carryThing_1 ?_
  refine r_iload_n dX11_carryThing_4 rfl ?_
  refine c_VI (As := [.int v1]) kvX11_164 rfl (by decide) (okX8_isThing v1 u) rfl (Nat.le_of_ble_eq_true rfl) rfl dX11_carryThing_5 (fun r1 u1 => ?_)
  refine r_if_eq dX11_carryThing_8 (tgt := 31) rfl ?_ ?_
  · refine r_iconst dX11_carryThing_31 (v := -1) rfl ?_
    exact r_ireturn rfl dX11_carryThing_32
  · refine r_aload_n dX11_carryThing_11 rfl ?_
    refine r_get 0 2 flX11_28 rfl (v := .ref 3) rfl dX11_carryThing_12 ?_
    refine r_iload_n dX11_carryThing_15 rfl ?_
    refine c_VI (As := [.int v2]) kvX11_263 rfl (by decide) (okX8_isField v2 u1) rfl (Nat.le_of_ble_eq_true rfl) rfl dX11_carryThing_16 (fun r2 u2 => ?_)
    refine r_if_eq dX11_carryThing_19 (tgt := 31) rfl ?_ ?_
    · refine r_iconst dX11_carryThing_31 (v := -1) rfl ?_
      exact r_ireturn rfl dX11_carryThing_32
    · refine r_iload_n dX11_carryThing_22 rfl ?_
      refine r_if_lt dX11_carryThing_23 (tgt := 31) rfl ?_ ?_
      · refine r_iconst dX11_carryThing_31 (v := -1) rfl ?_
        exact r_ireturn rfl dX11_carryThing_32
      · refine r_iload_n dX11_carryThing_26 rfl ?_
        refine r_iconst dX11_carryThing_27 (v := 5) rfl ?_
        refine r_icmp_lt dX11_carryThing_28 (tgt := 33) rfl ?_ ?_
        · refine r_aload_n dX11_carryThing_33 rfl ?_
          refine r_get 0 3 flX11_35 rfl (v := .ref 4) rfl dX11_carryThing_34 ?_
          refine r_get 4 0 flX11_177 rfl (v := .ref 22) rfl dX11_carryThing_37 ?_
          refine r_iload_n dX11_carryThing_40 rfl ?_
          refine r_iald 22 rfl dX11_carryThing_41 ?_
          refine r_istore dX11_carryThing_42 (Nat.le_of_ble_eq_true rfl) (ls2 := [some (.ref 0), some (.int v1), some (.int v2), some (.int v3), some (.int (gA u2 22 v1))]) rfl ?_
          refine r_aload_n dX11_carryThing_44 rfl ?_
          refine r_get 0 3 flX11_35 rfl (v := .ref 4) rfl dX11_carryThing_45 ?_
          refine r_get 4 0 flX11_177 rfl (v := .ref 22) rfl dX11_carryThing_48 ?_
          refine r_iload_n dX11_carryThing_51 rfl ?_
          refine r_iload_n dX11_carryThing_52 rfl ?_
          refine r_iast 22 rfl dX11_carryThing_53 (r_nx (fun u3 => ?_))
          refine r_aload_n dX11_carryThing_54 rfl ?_
          refine r_get 0 3 flX11_35 rfl (v := .ref 4) rfl dX11_carryThing_55 ?_
          refine r_get 4 1 flX11_180 rfl (v := .ref 23) rfl dX11_carryThing_58 ?_
          refine r_iload_n dX11_carryThing_61 rfl ?_
          refine r_iload_n dX11_carryThing_62 rfl ?_
          refine r_iast 23 rfl dX11_carryThing_63 (r_nx (fun u4 => ?_))
          refine r_iload dX11_carryThing_64 rfl ?_
          exact r_ireturn rfl dX11_carryThing_66
        · refine r_iconst dX11_carryThing_31 (v := -1) rfl ?_
          exact r_ireturn rfl dX11_carryThing_32
theorem okX11_carryThing (v1 : Int32) (v2 : Int32) (v3 : Int32) (u : US) : ∀ r, fX11_carryThing v1 v2 v3 u = some r → MetC mX11_carryThing 2 [.ref 0, .int v1, .int v2, .int v3] u (tI r) :=
  met_of (by decide +kernel) (Nat.le_of_ble_eq_true rfl) rfl (sX11_carryThing v1 v2 v3 u)
def fX11_carry (v1 : Int32) (v2 : Int32) (v3 : Int32) (u : US) : Option (Int32 × US) :=
  oV (fX1_copy 5 4 u) fun u1 => oB (fX11_carryThing v1 v2 v3 u1) fun r2 u2 => oB (fX11_remembered r2 u2) fun r3 u3 => some (r3, u3)
set_option maxRecDepth 20000 in
theorem sX11_carry (v1 : Int32) (v2 : Int32) (v3 : Int32) (u : US) : Sim tI mX11_carry 8 (fX11_carry v1 v2 v3 u) 0 [some (.ref 0), some (.int v1), some (.int v2), some (.int v3)] [] u := by
  unfold fX11_carry
  refine r_aload_n dX11_carry_0 rfl ?_
  refine r_get 0 4 flX11_39 rfl (v := .ref 5) rfl dX11_carry_1 ?_
  refine r_aload_n dX11_carry_4 rfl ?_
  refine r_get 0 3 flX11_35 rfl (v := .ref 4) rfl dX11_carry_5 ?_
  refine c_VV (As := [.ref 4]) kvX11_231 rfl (by decide) (okX1_copy 5 4 u) rfl (Nat.le_of_ble_eq_true rfl) rfl dX11_carry_8 (fun u1 => ?_)
  refine r_aload_n dX11_carry_11 rfl ?_
  refine r_aload_n dX11_carry_12 rfl ?_
  refine r_iload_n dX11_carry_13 rfl ?_
  refine r_iload_n dX11_carry_14 rfl ?_
  refine r_iload_n dX11_carry_15 rfl ?_
  refine c_VI (As := [.int v1, .int v2, .int v3]) kvX11_247 rfl (by decide) (okX11_carryThing v1 v2 v3 u1) rfl (Nat.le_of_ble_eq_true rfl) rfl dX11_carry_16 (fun r2 u2 => ?_)
  refine c_VI (As := [.int r2]) kvX11_238 rfl (by decide) (okX11_remembered r2 u2) rfl (Nat.le_of_ble_eq_true rfl) rfl dX11_carry_19 (fun r3 u3 => ?_)
  exact r_ireturn rfl dX11_carry_22
theorem okX11_carry (v1 : Int32) (v2 : Int32) (v3 : Int32) (u : US) : ∀ r, fX11_carry v1 v2 v3 u = some r → MetC mX11_carry 8 [.ref 0, .int v1, .int v2, .int v3] u (tI r) :=
  met_of (by decide +kernel) (Nat.le_of_ble_eq_true rfl) rfl (sX11_carry v1 v2 v3 u)
def fX5_demand_20 (v1 : Int32) (u : US) : Option (Int32 × US) :=
  (if (gI u 2 3) = (-1) then some (1, u) else some (0, u))
set_option maxRecDepth 20000 in
theorem sX5_demand_20 (v1 : Int32) (u : US) : Sim tI mX5_demand 0 (fX5_demand_20 v1 u) 20 [some (.ref 2), some (.int v1)] [] u := by
  unfold fX5_demand_20
  refine r_aload_n dX5_demand_20 rfl ?_
  refine r_get 2 3 flX5_22 rfl (v := .int (gI u 2 3)) rfl dX5_demand_21 ?_
  refine r_iconst dX5_demand_24 (v := -1) rfl ?_
  refine r_icmp_ne dX5_demand_25 (tgt := 32) rfl ?_ ?_
  · refine r_iconst dX5_demand_32 (v := 0) rfl ?_
    exact r_zreturn0 rfl dX5_demand_33
  · refine r_iconst dX5_demand_28 (v := 1) rfl ?_
    refine r_goto dX5_demand_29 (tgt := 33) rfl ?_
    exact r_zreturn1 rfl dX5_demand_33
def fX5_demand (v1 : Int32) (u : US) : Option (Int32 × US) :=
  (if v1 = 0 then (if (gI u 2 3) = (-1) then nx (sI u 2 3 (gI u 2 2)) fun u1 => fX5_demand_20 v1 u1 else fX5_demand_20 v1 u) else fX5_demand_20 v1 u)
set_option maxRecDepth 20000 in
theorem sX5_demand (v1 : Int32) (u : US) : Sim tI mX5_demand 0 (fX5_demand v1 u) 0 [some (.ref 2), some (.int v1)] [] u := by
  unfold fX5_demand
  refine r_iload_n dX5_demand_0 rfl ?_
  refine r_if_ne dX5_demand_1 (tgt := 20) rfl ?_ ?_
  · exact sX5_demand_20 v1 u
  · refine r_aload_n dX5_demand_4 rfl ?_
    refine r_get 2 3 flX5_22 rfl (v := .int (gI u 2 3)) rfl dX5_demand_5 ?_
    refine r_iconst dX5_demand_8 (v := -1) rfl ?_
    refine r_icmp_ne dX5_demand_9 (tgt := 20) rfl ?_ ?_
    · exact sX5_demand_20 v1 u
    · refine r_aload_n dX5_demand_12 rfl ?_
      refine r_aload_n dX5_demand_13 rfl ?_
      refine r_get 2 2 flX5_19 rfl (v := .int (gI u 2 2)) rfl dX5_demand_14 ?_
      refine r_put 2 3 fpX5_22 rfl rfl dX5_demand_17 (r_nx (fun u1 => ?_))
      exact sX5_demand_20 v1 u1
theorem okX5_demand (v1 : Int32) (u : US) : ∀ r, fX5_demand v1 u = some r → MetC mX5_demand 0 [.ref 2, .int v1] u (tI r) :=
  met_of (by decide +kernel) (Nat.le_of_ble_eq_true rfl) rfl (sX5_demand v1 u)
def fX5_peek_38 (s0 : Int32) (u : US) : Option (Int32 × US) :=
  (if s0 = 0 then gd (inb (gI u 2 2) 80) (some (gA u 15 (gI u 2 2), u)) else some ((-1), u))
set_option maxRecDepth 20000 in
theorem sX5_peek_38 (s0 : Int32) (u : US) : Sim tI mX5_peek 0 (fX5_peek_38 s0 u) 38 [some (.ref 2), none] [.int s0] u := by
  unfold fX5_peek_38
  refine r_istore_n dX5_peek_38 (Nat.le_of_ble_eq_true rfl) (ls2 := [some (.ref 2), some (.int s0)]) rfl ?_
  refine r_iload_n dX5_peek_39 rfl ?_
  refine r_if_eq dX5_peek_40 (tgt := 47) rfl ?_ ?_
  · refine r_aload_n dX5_peek_47 rfl ?_
    refine r_get 2 0 flX5_9 rfl (v := .ref 1) rfl dX5_peek_48 ?_
    refine r_get 1 0 flX5_30 rfl (v := .ref 15) rfl dX5_peek_51 ?_
    refine r_aload_n dX5_peek_54 rfl ?_
    refine r_get 2 2 flX5_19 rfl (v := .int (gI u 2 2)) rfl dX5_peek_55 ?_
    refine r_iald 15 rfl dX5_peek_58 ?_
    exact r_ireturn rfl dX5_peek_59
  · refine r_iconst dX5_peek_43 (v := -1) rfl ?_
    refine r_goto dX5_peek_44 (tgt := 59) rfl ?_
    exact r_ireturn rfl dX5_peek_59
def fX5_peek_33 (u : US) : Option (Int32 × US) :=
  fX5_peek_38 1 u
set_option maxRecDepth 20000 in
theorem sX5_peek_33 (u : US) : Sim tI mX5_peek 0 (fX5_peek_33 u) 33 [some (.ref 2), none] [] u := by
  unfold fX5_peek_33
  refine r_iconst dX5_peek_33 (v := 1) rfl ?_
  refine r_goto dX5_peek_34 (tgt := 38) rfl ?_
  exact sX5_peek_38 1 u
def fX5_peek (u : US) : Option (Int32 × US) :=
  (if (gI u 2 3) = (-1) then (if (gI u 2 1) ≤ (gI u 2 2) then fX5_peek_33 u else (if (gI u 2 2) < (gI u 1 1) then fX5_peek_38 0 u else fX5_peek_33 u)) else fX5_peek_33 u)
set_option maxRecDepth 20000 in
theorem sX5_peek (u : US) : Sim tI mX5_peek 0 (fX5_peek u) 0 [some (.ref 2), none] [] u := by
  unfold fX5_peek
  refine r_aload_n dX5_peek_0 rfl ?_
  refine r_get 2 3 flX5_22 rfl (v := .int (gI u 2 3)) rfl dX5_peek_1 ?_
  refine r_iconst dX5_peek_4 (v := -1) rfl ?_
  refine r_icmp_ne dX5_peek_5 (tgt := 33) rfl ?_ ?_
  · exact sX5_peek_33 u
  · refine r_aload_n dX5_peek_8 rfl ?_
    refine r_get 2 2 flX5_19 rfl (v := .int (gI u 2 2)) rfl dX5_peek_9 ?_
    refine r_aload_n dX5_peek_12 rfl ?_
    refine r_get 2 1 flX5_15 rfl (v := .int (gI u 2 1)) rfl dX5_peek_13 ?_
    refine r_icmp_ge dX5_peek_16 (tgt := 33) rfl ?_ ?_
    · exact sX5_peek_33 u
    · refine r_aload_n dX5_peek_19 rfl ?_
      refine r_get 2 2 flX5_19 rfl (v := .int (gI u 2 2)) rfl dX5_peek_20 ?_
      refine r_aload_n dX5_peek_23 rfl ?_
      refine r_get 2 0 flX5_9 rfl (v := .ref 1) rfl dX5_peek_24 ?_
      refine r_get 1 1 flX5_25 rfl (v := .int (gI u 1 1)) rfl dX5_peek_27 ?_
      refine r_icmp_lt dX5_peek_30 (tgt := 37) rfl ?_ ?_
      · refine r_iconst dX5_peek_37 (v := 0) rfl ?_
        exact sX5_peek_38 0 u
      · exact sX5_peek_33 u
theorem okX5_peek (u : US) : ∀ r, fX5_peek u = some r → MetC mX5_peek 0 [.ref 2] u (tI r) :=
  met_of (by decide +kernel) (Nat.le_of_ble_eq_true rfl) rfl (sX5_peek u)
def fX5_signFrom_22 (v1 : Int32) (v2 : Int32) (v3 : Int32) (s1 : Int32) (u : US) : Option (Int32 × US) :=
  oB (fX5_demand s1 u) fun r1 u1 => (if r1 = 0 then some (0, u1) else nx (sI u1 2 2 ((gI u1 2 2) + 1)) fun u2 => some (v3, u2))
set_option maxRecDepth 20000 in
theorem sX5_signFrom_22 (v1 : Int32) (v2 : Int32) (v3 : Int32) (s1 : Int32) (u : US) : Sim tI mX5_signFrom 1 (fX5_signFrom_22 v1 v2 v3 s1 u) 22 [some (.ref 2), some (.int v1), some (.int v2), some (.int v3)] [.int s1, .ref 2] u := by
  unfold fX5_signFrom_22
  refine c_VI (As := [.int s1]) kvX5_38 rfl (by decide) (okX5_demand s1 u) rfl (Nat.le_of_ble_eq_true rfl) rfl dX5_signFrom_22 (fun r1 u1 => ?_)
  refine r_if_ne dX5_signFrom_25 (tgt := 30) rfl ?_ ?_
  · refine r_aload_n dX5_signFrom_30 rfl ?_
    refine r_dup dX5_signFrom_31 rfl ?_
    refine r_get 2 2 flX5_19 rfl (v := .int (gI u1 2 2)) rfl dX5_signFrom_32 ?_
    refine r_iconst dX5_signFrom_35 (v := 1) rfl ?_
    refine r_iadd dX5_signFrom_36 ?_
    refine r_put 2 2 fpX5_19 rfl rfl dX5_signFrom_37 (r_nx (fun u2 => ?_))
    refine r_iload_n dX5_signFrom_40 rfl ?_
    exact r_ireturn rfl dX5_signFrom_41
  · refine r_iconst dX5_signFrom_28 (v := 0) rfl ?_
    exact r_ireturn rfl dX5_signFrom_29
def fX5_signFrom_21 (v1 : Int32) (v2 : Int32) (v3 : Int32) (u : US) : Option (Int32 × US) :=
  fX5_signFrom_22 v1 v2 v3 0 u
set_option maxRecDepth 20000 in
theorem sX5_signFrom_21 (v1 : Int32) (v2 : Int32) (v3 : Int32) (u : US) : Sim tI mX5_signFrom 1 (fX5_signFrom_21 v1 v2 v3 u) 21 [some (.ref 2), some (.int v1), some (.int v2), some (.int v3)] [.ref 2] u := by
  unfold fX5_signFrom_21
  refine r_iconst dX5_signFrom_21 (v := 0) rfl ?_
  exact sX5_signFrom_22 v1 v2 v3 0 u
def fX5_signFrom (v1 : Int32) (v2 : Int32) (u : US) : Option (Int32 × US) :=
  oB (fX5_peek u) fun r1 u1 => (if (r1 - v1) < 0 then fX5_signFrom_21 v1 v2 (r1 - v1) u1 else (if v2 ≤ (r1 - v1) then fX5_signFrom_21 v1 v2 (r1 - v1) u1 else fX5_signFrom_22 v1 v2 (r1 - v1) 1 u1))
set_option maxRecDepth 20000 in
theorem sX5_signFrom (v1 : Int32) (v2 : Int32) (u : US) : Sim tI mX5_signFrom 1 (fX5_signFrom v1 v2 u) 0 [some (.ref 2), some (.int v1), some (.int v2), none] [] u := by
  unfold fX5_signFrom
  refine r_aload_n dX5_signFrom_0 rfl ?_
  refine c_VI (As := []) kvX5_34 rfl (by decide) (okX5_peek u) rfl (Nat.le_of_ble_eq_true rfl) rfl dX5_signFrom_1 (fun r1 u1 => ?_)
  refine r_iload_n dX5_signFrom_4 rfl ?_
  refine r_isub dX5_signFrom_5 ?_
  refine r_istore_n dX5_signFrom_6 (Nat.le_of_ble_eq_true rfl) (ls2 := [some (.ref 2), some (.int v1), some (.int v2), some (.int (r1 - v1))]) rfl ?_
  refine r_aload_n dX5_signFrom_7 rfl ?_
  refine r_iload_n dX5_signFrom_8 rfl ?_
  refine r_if_lt dX5_signFrom_9 (tgt := 21) rfl ?_ ?_
  · exact sX5_signFrom_21 v1 v2 (r1 - v1) u1
  · refine r_iload_n dX5_signFrom_12 rfl ?_
    refine r_iload_n dX5_signFrom_13 rfl ?_
    refine r_icmp_ge dX5_signFrom_14 (tgt := 21) rfl ?_ ?_
    · exact sX5_signFrom_21 v1 v2 (r1 - v1) u1
    · refine r_iconst dX5_signFrom_17 (v := 1) rfl ?_
      refine r_goto dX5_signFrom_18 (tgt := 22) rfl ?_
      exact sX5_signFrom_22 v1 v2 (r1 - v1) 1 u1
theorem okX5_signFrom (v1 : Int32) (v2 : Int32) (u : US) : ∀ r, fX5_signFrom v1 v2 u = some r → MetC mX5_signFrom 1 [.ref 2, .int v1, .int v2] u (tI r) :=
  met_of (by decide +kernel) (Nat.le_of_ble_eq_true rfl) rfl (sX5_signFrom v1 v2 u)
def fX5_digit (v1 : Int32) (u : US) : Option (Int32 × US) :=
  oB (fX5_signFrom 48 v1 u) fun r1 u1 => some (r1, u1)
set_option maxRecDepth 20000 in
theorem sX5_digit (v1 : Int32) (u : US) : Sim tI mX5_digit 2 (fX5_digit v1 u) 0 [some (.ref 2), some (.int v1)] [] u := by
  unfold fX5_digit
  refine r_aload_n dX5_digit_0 rfl ?_
  refine r_bipush dX5_digit_1 (v := 48) rfl ?_
  refine r_iload_n dX5_digit_3 rfl ?_
  refine c_VI (As := [.int 48, .int v1]) kvX5_42 rfl (by decide) (okX5_signFrom 48 v1 u) rfl (Nat.le_of_ble_eq_true rfl) rfl dX5_digit_4 (fun r1 u1 => ?_)
  exact r_ireturn rfl dX5_digit_7
theorem okX5_digit (v1 : Int32) (u : US) : ∀ r, fX5_digit v1 u = some r → MetC mX5_digit 2 [.ref 2, .int v1] u (tI r) :=
  met_of (by decide +kernel) (Nat.le_of_ble_eq_true rfl) rfl (sX5_digit v1 u)
def fX5_headingOf (v0 : Int32) (u : US) : Option (Int32 × US) :=
  (if v0 = 100 then some (2, u) else (if v0 = 108 then some (3, u) else (if v0 = 114 then some (1, u) else (if v0 = 115 then some (4, u) else (if v0 = 117 then some (0, u) else some ((-1), u))))))
set_option maxRecDepth 20000 in
theorem sX5_headingOf (v0 : Int32) (u : US) : Sim tI mX5_headingOf 0 (fX5_headingOf v0 u) 0 [some (.int v0)] [] u := by
  unfold fX5_headingOf
  refine r_iload_n dX5_headingOf_0 rfl ?_
  refine r_ite (fun hc0 => ?_) (fun hc0 => ?_)
  · refine r_look dX5_headingOf_1 (by decide) (off := 55) (by rw [hc0]; decide) (tgt := 56) rfl ?_
    refine r_iconst dX5_headingOf_56 (v := 2) rfl ?_
    exact r_ireturn rfl dX5_headingOf_57
  refine r_ite (fun hc1 => ?_) (fun hc1 => ?_)
  · refine r_look dX5_headingOf_1 (by decide) (off := 57) (by rw [hc1]; decide) (tgt := 58) rfl ?_
    refine r_iconst dX5_headingOf_58 (v := 3) rfl ?_
    exact r_ireturn rfl dX5_headingOf_59
  refine r_ite (fun hc2 => ?_) (fun hc2 => ?_)
  · refine r_look dX5_headingOf_1 (by decide) (off := 53) (by rw [hc2]; decide) (tgt := 54) rfl ?_
    refine r_iconst dX5_headingOf_54 (v := 1) rfl ?_
    exact r_ireturn rfl dX5_headingOf_55
  refine r_ite (fun hc3 => ?_) (fun hc3 => ?_)
  · refine r_look dX5_headingOf_1 (by decide) (off := 59) (by rw [hc3]; decide) (tgt := 60) rfl ?_
    refine r_iconst dX5_headingOf_60 (v := 4) rfl ?_
    exact r_ireturn rfl dX5_headingOf_61
  refine r_ite (fun hc4 => ?_) (fun hc4 => ?_)
  · refine r_look dX5_headingOf_1 (by decide) (off := 51) (by rw [hc4]; decide) (tgt := 52) rfl ?_
    refine r_iconst dX5_headingOf_52 (v := 0) rfl ?_
    exact r_ireturn rfl dX5_headingOf_53
  refine r_look dX5_headingOf_1 (by decide) (off := 61) (by
    show Op.lookupswitch.offset [(100, 55), (108, 57), (114, 53), (115, 59), (117, 51)] _ _ = _
    rw [lv_osw (k := 100) (a := 100) hc0 rfl, lv_osw (k := 108) (a := 108) hc1 rfl, lv_osw (k := 114) (a := 114) hc2 rfl, lv_osw (k := 115) (a := 115) hc3 rfl, lv_osw (k := 117) (a := 117) hc4 rfl]; rfl) (tgt := 62) rfl ?_
  refine r_iconst dX5_headingOf_62 (v := -1) rfl ?_
  exact r_ireturn rfl dX5_headingOf_63
theorem okX5_headingOf (v0 : Int32) (u : US) : ∀ r, fX5_headingOf v0 u = some r → MetC mX5_headingOf 0 [.int v0] u (tI r) :=
  met_of (by decide +kernel) (Nat.le_of_ble_eq_true rfl) rfl (sX5_headingOf v0 u)
def fX5_heading_19 (v1 : Int32) (s1 : Int32) (u : US) : Option (Int32 × US) :=
  oB (fX5_demand s1 u) fun r1 u1 => (if r1 = 0 then some (4, u1) else nx (sI u1 2 2 ((gI u1 2 2) + 1)) fun u2 => some (v1, u2))
set_option maxRecDepth 20000 in
theorem sX5_heading_19 (v1 : Int32) (s1 : Int32) (u : US) : Sim tI mX5_heading 1 (fX5_heading_19 v1 s1 u) 19 [some (.ref 2), some (.int v1)] [.int s1, .ref 2] u := by
  unfold fX5_heading_19
  refine c_VI (As := [.int s1]) kvX5_38 rfl (by decide) (okX5_demand s1 u) rfl (Nat.le_of_ble_eq_true rfl) rfl dX5_heading_19 (fun r1 u1 => ?_)
  refine r_if_ne dX5_heading_22 (tgt := 27) rfl ?_ ?_
  · refine r_aload_n dX5_heading_27 rfl ?_
    refine r_dup dX5_heading_28 rfl ?_
    refine r_get 2 2 flX5_19 rfl (v := .int (gI u1 2 2)) rfl dX5_heading_29 ?_
    refine r_iconst dX5_heading_32 (v := 1) rfl ?_
    refine r_iadd dX5_heading_33 ?_
    refine r_put 2 2 fpX5_19 rfl rfl dX5_heading_34 (r_nx (fun u2 => ?_))
    refine r_iload_n dX5_heading_37 rfl ?_
    exact r_ireturn rfl dX5_heading_38
  · refine r_iconst dX5_heading_25 (v := 4) rfl ?_
    exact r_ireturn rfl dX5_heading_26
def fX5_heading (u : US) : Option (Int32 × US) :=
  oB (fX5_peek u) fun r1 u1 => oB (fX5_headingOf r1 u1) fun r2 u2 => (if r2 = (-1) then fX5_heading_19 r2 0 u2 else fX5_heading_19 r2 1 u2)
set_option maxRecDepth 20000 in
theorem sX5_heading (u : US) : Sim tI mX5_heading 1 (fX5_heading u) 0 [some (.ref 2), none] [] u := by
  unfold fX5_heading
  refine r_aload_n dX5_heading_0 rfl ?_
  refine c_VI (As := []) kvX5_34 rfl (by decide) (okX5_peek u) rfl (Nat.le_of_ble_eq_true rfl) rfl dX5_heading_1 (fun r1 u1 => ?_)
  refine c_SI (As := [.int r1]) ksX5_46 (by decide) (okX5_headingOf r1 u1) rfl (Nat.le_of_ble_eq_true rfl) rfl dX5_heading_4 (fun r2 u2 => ?_)
  refine r_istore_n dX5_heading_7 (Nat.le_of_ble_eq_true rfl) (ls2 := [some (.ref 2), some (.int r2)]) rfl ?_
  refine r_aload_n dX5_heading_8 rfl ?_
  refine r_iload_n dX5_heading_9 rfl ?_
  refine r_iconst dX5_heading_10 (v := -1) rfl ?_
  refine r_icmp_eq dX5_heading_11 (tgt := 18) rfl ?_ ?_
  · refine r_iconst dX5_heading_18 (v := 0) rfl ?_
    exact sX5_heading_19 r2 0 u2
  · refine r_iconst dX5_heading_14 (v := 1) rfl ?_
    refine r_goto dX5_heading_15 (tgt := 19) rfl ?_
    exact sX5_heading_19 r2 1 u2
theorem okX5_heading (u : US) : ∀ r, fX5_heading u = some r → MetC mX5_heading 1 [.ref 2] u (tI r) :=
  met_of (by decide +kernel) (Nat.le_of_ble_eq_true rfl) rfl (sX5_heading u)
def fX11_carryAsTold (u : US) : Option (Int32 × US) :=
  oB (fX5_digit 10 u) fun r1 u1 => oB (fX5_digit 10 u1) fun r2 u2 => oB (fX5_digit 10 u2) fun r3 u3 => oB (fX5_heading u3) fun r4 u4 => (if (gI u4 3 0) ≤ r2 then some ((-1), u4) else (if r3 < (gI u4 3 1) then oB (fX11_carryThing r1 ((r2 * (gI u4 3 1)) + r3) r4 u4) fun r5 u5 => some (r5, u5) else some ((-1), u4)))
set_option maxRecDepth 20000 in
theorem sX11_carryAsTold (u : US) : Sim tI mX11_carryAsTold 3 (fX11_carryAsTold u) 0 [some (.ref 0), none, none, none, none] [] u := by
  unfold fX11_carryAsTold
  refine r_aload_n dX11_carryAsTold_0 rfl ?_
  refine r_get 0 1 flX11_21 rfl (v := .ref 2) rfl dX11_carryAsTold_1 ?_
  refine r_bipush dX11_carryAsTold_4 (v := 10) rfl ?_
  refine c_VI (As := [.int 10]) kvX11_305 rfl (by decide) (okX5_digit 10 u) rfl (Nat.le_of_ble_eq_true rfl) rfl dX11_carryAsTold_6 (fun r1 u1 => ?_)
  refine r_istore_n dX11_carryAsTold_9 (Nat.le_of_ble_eq_true rfl) (ls2 := [some (.ref 0), some (.int r1), none, none, none]) rfl ?_
  refine r_aload_n dX11_carryAsTold_10 rfl ?_
  refine r_get 0 1 flX11_21 rfl (v := .ref 2) rfl dX11_carryAsTold_11 ?_
  refine r_bipush dX11_carryAsTold_14 (v := 10) rfl ?_
  refine c_VI (As := [.int 10]) kvX11_305 rfl (by decide) (okX5_digit 10 u1) rfl (Nat.le_of_ble_eq_true rfl) rfl dX11_carryAsTold_16 (fun r2 u2 => ?_)
  refine r_istore_n dX11_carryAsTold_19 (Nat.le_of_ble_eq_true rfl) (ls2 := [some (.ref 0), some (.int r1), some (.int r2), none, none]) rfl ?_
  refine r_aload_n dX11_carryAsTold_20 rfl ?_
  refine r_get 0 1 flX11_21 rfl (v := .ref 2) rfl dX11_carryAsTold_21 ?_
  refine r_bipush dX11_carryAsTold_24 (v := 10) rfl ?_
  refine c_VI (As := [.int 10]) kvX11_305 rfl (by decide) (okX5_digit 10 u2) rfl (Nat.le_of_ble_eq_true rfl) rfl dX11_carryAsTold_26 (fun r3 u3 => ?_)
  refine r_istore_n dX11_carryAsTold_29 (Nat.le_of_ble_eq_true rfl) (ls2 := [some (.ref 0), some (.int r1), some (.int r2), some (.int r3), none]) rfl ?_
  refine r_aload_n dX11_carryAsTold_30 rfl ?_
  refine r_get 0 1 flX11_21 rfl (v := .ref 2) rfl dX11_carryAsTold_31 ?_
  refine c_VI (As := []) kvX11_314 rfl (by decide) (okX5_heading u3) rfl (Nat.le_of_ble_eq_true rfl) rfl dX11_carryAsTold_34 (fun r4 u4 => ?_)
  refine r_istore dX11_carryAsTold_37 (Nat.le_of_ble_eq_true rfl) (ls2 := [some (.ref 0), some (.int r1), some (.int r2), some (.int r3), some (.int r4)]) rfl ?_
  refine r_iload_n dX11_carryAsTold_39 rfl ?_
  refine r_aload_n dX11_carryAsTold_40 rfl ?_
  refine r_get 0 2 flX11_28 rfl (v := .ref 3) rfl dX11_carryAsTold_41 ?_
  refine r_get 3 0 flX11_316 rfl (v := .int (gI u4 3 0)) rfl dX11_carryAsTold_44 ?_
  refine r_icmp_ge dX11_carryAsTold_47 (tgt := 61) rfl ?_ ?_
  · refine r_iconst dX11_carryAsTold_61 (v := -1) rfl ?_
    exact r_ireturn rfl dX11_carryAsTold_62
  · refine r_iload_n dX11_carryAsTold_50 rfl ?_
    refine r_aload_n dX11_carryAsTold_51 rfl ?_
    refine r_get 0 2 flX11_28 rfl (v := .ref 3) rfl dX11_carryAsTold_52 ?_
    refine r_get 3 1 flX11_319 rfl (v := .int (gI u4 3 1)) rfl dX11_carryAsTold_55 ?_
    refine r_icmp_lt dX11_carryAsTold_58 (tgt := 63) rfl ?_ ?_
    · refine r_aload_n dX11_carryAsTold_63 rfl ?_
      refine r_iload_n dX11_carryAsTold_64 rfl ?_
      refine r_iload_n dX11_carryAsTold_65 rfl ?_
      refine r_aload_n dX11_carryAsTold_66 rfl ?_
      refine r_get 0 2 flX11_28 rfl (v := .ref 3) rfl dX11_carryAsTold_67 ?_
      refine r_get 3 1 flX11_319 rfl (v := .int (gI u4 3 1)) rfl dX11_carryAsTold_70 ?_
      refine r_imul dX11_carryAsTold_73 ?_
      refine r_iload_n dX11_carryAsTold_74 rfl ?_
      refine r_iadd dX11_carryAsTold_75 ?_
      refine r_iload dX11_carryAsTold_76 rfl ?_
      refine c_VI (As := [.int r1, .int ((r2 * (gI u4 3 1)) + r3), .int r4]) kvX11_247 rfl (by decide) (okX11_carryThing r1 ((r2 * (gI u4 3 1)) + r3) r4 u4) rfl (Nat.le_of_ble_eq_true rfl) rfl dX11_carryAsTold_78 (fun r5 u5 => ?_)
      exact r_ireturn rfl dX11_carryAsTold_81
    · refine r_iconst dX11_carryAsTold_61 (v := -1) rfl ?_
      exact r_ireturn rfl dX11_carryAsTold_62
theorem okX11_carryAsTold (u : US) : ∀ r, fX11_carryAsTold u = some r → MetC mX11_carryAsTold 3 [.ref 0] u (tI r) :=
  met_of (by decide +kernel) (Nat.le_of_ble_eq_true rfl) rfl (sX11_carryAsTold u)
def fX5_passes (v1 : Int32) (u : US) : Option (Int32 × US) :=
  oB (fX5_peek u) fun r1 u1 => (if r1 = v1 then nx (sI u1 2 2 ((gI u1 2 2) + 1)) fun u2 => some (1, u2) else some (0, u1))
set_option maxRecDepth 20000 in
theorem sX5_passes (v1 : Int32) (u : US) : Sim tI mX5_passes 1 (fX5_passes v1 u) 0 [some (.ref 2), some (.int v1)] [] u := by
  unfold fX5_passes
  refine r_aload_n dX5_passes_0 rfl ?_
  refine c_VI (As := []) kvX5_34 rfl (by decide) (okX5_peek u) rfl (Nat.le_of_ble_eq_true rfl) rfl dX5_passes_1 (fun r1 u1 => ?_)
  refine r_iload_n dX5_passes_4 rfl ?_
  refine r_icmp_eq dX5_passes_5 (tgt := 10) rfl ?_ ?_
  · refine r_aload_n dX5_passes_10 rfl ?_
    refine r_dup dX5_passes_11 rfl ?_
    refine r_get 2 2 flX5_19 rfl (v := .int (gI u1 2 2)) rfl dX5_passes_12 ?_
    refine r_iconst dX5_passes_15 (v := 1) rfl ?_
    refine r_iadd dX5_passes_16 ?_
    refine r_put 2 2 fpX5_19 rfl rfl dX5_passes_17 (r_nx (fun u2 => ?_))
    refine r_iconst dX5_passes_20 (v := 1) rfl ?_
    exact r_zreturn1 rfl dX5_passes_21
  · refine r_iconst dX5_passes_8 (v := 0) rfl ?_
    exact r_zreturn0 rfl dX5_passes_9
theorem okX5_passes (v1 : Int32) (u : US) : ∀ r, fX5_passes v1 u = some r → MetC mX5_passes 1 [.ref 2, .int v1] u (tI r) :=
  met_of (by decide +kernel) (Nat.le_of_ble_eq_true rfl) rfl (sX5_passes v1 u)
def fX5_another (u : US) : Option (Int32 × US) :=
  oB (fX5_peek u) fun r1 u1 => (if r1 = (-1) then some (0, u1) else oB (fX5_passes 59 u1) fun r2 u2 => oB (fX5_demand r2 u2) fun r3 u3 => (if r3 = 0 then some (0, u3) else some (1, u3)))
set_option maxRecDepth 20000 in
theorem sX5_another (u : US) : Sim tI mX5_another 2 (fX5_another u) 0 [some (.ref 2)] [] u := by
  unfold fX5_another
  refine r_aload_n dX5_another_0 rfl ?_
  refine c_VI (As := []) kvX5_34 rfl (by decide) (okX5_peek u) rfl (Nat.le_of_ble_eq_true rfl) rfl dX5_another_1 (fun r1 u1 => ?_)
  refine r_iconst dX5_another_4 (v := -1) rfl ?_
  refine r_icmp_eq dX5_another_5 (tgt := 25) rfl ?_ ?_
  · refine r_iconst dX5_another_25 (v := 0) rfl ?_
    exact r_zreturn0 rfl dX5_another_26
  · refine r_aload_n dX5_another_8 rfl ?_
    refine r_aload_n dX5_another_9 rfl ?_
    refine r_bipush dX5_another_10 (v := 59) rfl ?_
    refine c_VI (As := [.int 59]) kvX5_50 rfl (by decide) (okX5_passes 59 u1) rfl (Nat.le_of_ble_eq_true rfl) rfl dX5_another_12 (fun r2 u2 => ?_)
    refine c_VI (As := [.int r2]) kvX5_38 rfl (by decide) (okX5_demand r2 u2) rfl (Nat.le_of_ble_eq_true rfl) rfl dX5_another_15 (fun r3 u3 => ?_)
    refine r_if_eq dX5_another_18 (tgt := 25) rfl ?_ ?_
    · refine r_iconst dX5_another_25 (v := 0) rfl ?_
      exact r_zreturn0 rfl dX5_another_26
    · refine r_iconst dX5_another_21 (v := 1) rfl ?_
      refine r_goto dX5_another_22 (tgt := 26) rfl ?_
      exact r_zreturn1 rfl dX5_another_26
theorem okX5_another (u : US) : ∀ r, fX5_another u = some r → MetC mX5_another 2 [.ref 2] u (tI r) :=
  met_of (by decide +kernel) (Nat.le_of_ble_eq_true rfl) rfl (sX5_another u)
def fX5_firstFault_20 (s1 : Int32) (u : US) : Option (Int32 × US) :=
  oB (fX5_demand s1 u) fun r1 u1 => some (gI u1 2 3, u1)
set_option maxRecDepth 20000 in
theorem sX5_firstFault_20 (s1 : Int32) (u : US) : Sim tI mX5_firstFault 1 (fX5_firstFault_20 s1 u) 20 [some (.ref 2)] [.int s1, .ref 2] u := by
  unfold fX5_firstFault_20
  refine c_VI (As := [.int s1]) kvX5_38 rfl (by decide) (okX5_demand s1 u) rfl (Nat.le_of_ble_eq_true rfl) rfl dX5_firstFault_20 (fun r1 u1 => ?_)
  refine r_pop dX5_firstFault_23 rfl ?_
  refine r_aload_n dX5_firstFault_24 rfl ?_
  refine r_get 2 3 flX5_22 rfl (v := .int (gI u1 2 3)) rfl dX5_firstFault_25 ?_
  exact r_ireturn rfl dX5_firstFault_28
def fX5_firstFault (u : US) : Option (Int32 × US) :=
  (if (gI u 2 2) < (gI u 1 1) then fX5_firstFault_20 0 u else fX5_firstFault_20 1 u)
set_option maxRecDepth 20000 in
theorem sX5_firstFault (u : US) : Sim tI mX5_firstFault 1 (fX5_firstFault u) 0 [some (.ref 2)] [] u := by
  unfold fX5_firstFault
  refine r_aload_n dX5_firstFault_0 rfl ?_
  refine r_aload_n dX5_firstFault_1 rfl ?_
  refine r_get 2 2 flX5_19 rfl (v := .int (gI u 2 2)) rfl dX5_firstFault_2 ?_
  refine r_aload_n dX5_firstFault_5 rfl ?_
  refine r_get 2 0 flX5_9 rfl (v := .ref 1) rfl dX5_firstFault_6 ?_
  refine r_get 1 1 flX5_25 rfl (v := .int (gI u 1 1)) rfl dX5_firstFault_9 ?_
  refine r_icmp_lt dX5_firstFault_12 (tgt := 19) rfl ?_ ?_
  · refine r_iconst dX5_firstFault_19 (v := 0) rfl ?_
    exact sX5_firstFault_20 0 u
  · refine r_iconst dX5_firstFault_15 (v := 1) rfl ?_
    refine r_goto dX5_firstFault_16 (tgt := 20) rfl ?_
    exact sX5_firstFault_20 1 u
theorem okX5_firstFault (u : US) : ∀ r, fX5_firstFault u = some r → MetC mX5_firstFault 1 [.ref 2] u (tI r) :=
  met_of (by decide +kernel) (Nat.le_of_ble_eq_true rfl) rfl (sX5_firstFault u)
def fX5_answer (v1 : Int32) (u : US) : Option (Int32 × US) :=
  oB (fX5_firstFault u) fun r1 u1 => (if r1 = (-1) then some (v1, u1) else some ((-1) - r1, u1))
set_option maxRecDepth 20000 in
theorem sX5_answer (v1 : Int32) (u : US) : Sim tI mX5_answer 2 (fX5_answer v1 u) 0 [some (.ref 2), some (.int v1), none] [] u := by
  unfold fX5_answer
  refine r_aload_n dX5_answer_0 rfl ?_
  refine c_VI (As := []) kvX5_60 rfl (by decide) (okX5_firstFault u) rfl (Nat.le_of_ble_eq_true rfl) rfl dX5_answer_1 (fun r1 u1 => ?_)
  refine r_istore_n dX5_answer_4 (Nat.le_of_ble_eq_true rfl) (ls2 := [some (.ref 2), some (.int v1), some (.int r1)]) rfl ?_
  refine r_iload_n dX5_answer_5 rfl ?_
  refine r_iconst dX5_answer_6 (v := -1) rfl ?_
  refine r_icmp_ne dX5_answer_7 (tgt := 14) rfl ?_ ?_
  · refine r_iconst dX5_answer_14 (v := -1) rfl ?_
    refine r_iload_n dX5_answer_15 rfl ?_
    refine r_isub dX5_answer_16 ?_
    exact r_ireturn rfl dX5_answer_17
  · refine r_iload_n dX5_answer_10 rfl ?_
    refine r_goto dX5_answer_11 (tgt := 17) rfl ?_
    exact r_ireturn rfl dX5_answer_17
theorem okX5_answer (v1 : Int32) (u : US) : ∀ r, fX5_answer v1 u = some r → MetC mX5_answer 2 [.ref 2, .int v1] u (tI r) :=
  met_of (by decide +kernel) (Nat.le_of_ble_eq_true rfl) rfl (sX5_answer v1 u)
def fX5_kinds_4 : Nat → Int32 → Int32 → US → Option (Int32 × US)
  | 0, _, _, _ => none
  | n + 1, v1, v2, u => (if (8 : Int32) ≤ v2 then some (v1, u) else oB (fX5_passes (97 + v2) u) fun r1 u1 => (if r1 = 0 then fX5_kinds_4 n v1 (v2 + 1) u1 else fX5_kinds_4 n (v1 ||| (1 <<< (v2 &&& 31))) (v2 + 1) u1))
set_option maxRecDepth 20000 in
theorem sX5_kinds_4 : ∀ (n : Nat) (v1 : Int32) (v2 : Int32) (u : US), Sim tI mX5_kinds 2 (fX5_kinds_4 n v1 v2 u) 4 [some (.ref 2), some (.int v1), some (.int v2)] [] u := by
  intro n
  induction n with
  | zero =>
    intro v1 v2 u
    rw [fX5_kinds_4.eq_1]
    exact r_none
  | succ n ih =>
    intro v1 v2 u
    rw [fX5_kinds_4.eq_2]
    refine r_iload_n dX5_kinds_4 rfl ?_
    refine r_bipush dX5_kinds_5 (v := 8) rfl ?_
    refine r_icmp_ge dX5_kinds_7 (tgt := 33) rfl ?_ ?_
    · refine r_iload_n dX5_kinds_33 rfl ?_
      exact r_ireturn rfl dX5_kinds_34
    · refine r_aload_n dX5_kinds_10 rfl ?_
      refine r_bipush dX5_kinds_11 (v := 97) rfl ?_
      refine r_iload_n dX5_kinds_13 rfl ?_
      refine r_iadd dX5_kinds_14 ?_
      refine c_VI (As := [.int (97 + v2)]) kvX5_50 rfl (by decide) (okX5_passes (97 + v2) u) rfl (Nat.le_of_ble_eq_true rfl) rfl dX5_kinds_15 (fun r1 u1 => ?_)
      refine r_if_eq dX5_kinds_18 (tgt := 27) rfl ?_ ?_
      · refine r_iinc dX5_kinds_27 (Nat.le_of_ble_eq_true rfl) rfl (v := v2 + 1) rfl (ls2 := [some (.ref 2), some (.int v1), some (.int (v2 + 1))]) rfl ?_
        refine r_goto dX5_kinds_30 (tgt := 4) rfl ?_
        exact ih v1 (v2 + 1) u1
      · refine r_iload_n dX5_kinds_21 rfl ?_
        refine r_iconst dX5_kinds_22 (v := 1) rfl ?_
        refine r_iload_n dX5_kinds_23 rfl ?_
        refine r_ishl dX5_kinds_24 ?_
        refine r_ior dX5_kinds_25 ?_
        refine r_istore_n dX5_kinds_26 (Nat.le_of_ble_eq_true rfl) (ls2 := [some (.ref 2), some (.int (v1 ||| (1 <<< (v2 &&& 31)))), some (.int v2)]) rfl ?_
        refine r_iinc dX5_kinds_27 (Nat.le_of_ble_eq_true rfl) rfl (v := v2 + 1) rfl (ls2 := [some (.ref 2), some (.int (v1 ||| (1 <<< (v2 &&& 31)))), some (.int (v2 + 1))]) rfl ?_
        refine r_goto dX5_kinds_30 (tgt := 4) rfl ?_
        exact ih (v1 ||| (1 <<< (v2 &&& 31))) (v2 + 1) u1
def fX5_kinds (u : US) : Option (Int32 × US) :=
  fX5_kinds_4 FU 0 0 u
set_option maxRecDepth 20000 in
theorem sX5_kinds (u : US) : Sim tI mX5_kinds 2 (fX5_kinds u) 0 [some (.ref 2), none, none] [] u := by
  unfold fX5_kinds
  refine r_iconst dX5_kinds_0 (v := 0) rfl ?_
  refine r_istore_n dX5_kinds_1 (Nat.le_of_ble_eq_true rfl) (ls2 := [some (.ref 2), some (.int 0), none]) rfl ?_
  refine r_iconst dX5_kinds_2 (v := 0) rfl ?_
  refine r_istore_n dX5_kinds_3 (Nat.le_of_ble_eq_true rfl) (ls2 := [some (.ref 2), some (.int 0), some (.int 0)]) rfl ?_
  exact sX5_kinds_4 FU 0 0 u
theorem okX5_kinds (u : US) : ∀ r, fX5_kinds u = some r → MetC mX5_kinds 2 [.ref 2] u (tI r) :=
  met_of (by decide +kernel) (Nat.le_of_ble_eq_true rfl) rfl (sX5_kinds u)
def fX5_open (v1 : Int32) (u : US) : Option (US) :=
  nx (sI u 2 1 v1) fun u1 => nx (sI u1 2 2 0) fun u2 => nx (sI u2 2 3 (-1)) fun u3 => some u3
set_option maxRecDepth 20000 in
theorem sX5_open (v1 : Int32) (u : US) : Sim tV mX5_open 0 (fX5_open v1 u) 0 [some (.ref 2), some (.int v1)] [] u := by
  unfold fX5_open
  refine r_aload_n dX5_open_0 rfl ?_
  refine r_iload_n dX5_open_1 rfl ?_
  refine r_put 2 1 fpX5_15 rfl rfl dX5_open_2 (r_nx (fun u1 => ?_))
  refine r_aload_n dX5_open_5 rfl ?_
  refine r_iconst dX5_open_6 (v := 0) rfl ?_
  refine r_put 2 2 fpX5_19 rfl rfl dX5_open_7 (r_nx (fun u2 => ?_))
  refine r_aload_n dX5_open_10 rfl ?_
  refine r_iconst dX5_open_11 (v := -1) rfl ?_
  refine r_put 2 3 fpX5_22 rfl rfl dX5_open_12 (r_nx (fun u3 => ?_))
  exact r_return rfl dX5_open_15
theorem okX5_open (v1 : Int32) (u : US) : ∀ r, fX5_open v1 u = some r → MetC mX5_open 0 [.ref 2, .int v1] u (tV r) :=
  met_of (by decide +kernel) (Nat.le_of_ble_eq_true rfl) rfl (sX5_open v1 u)
def fX7_isEmpty (u : US) : Option (Int32 × US) :=
  (if (gI u 1 1) = 0 then some (1, u) else some (0, u))
set_option maxRecDepth 20000 in
theorem sX7_isEmpty (u : US) : Sim tI mX7_isEmpty 0 (fX7_isEmpty u) 0 [some (.ref 1)] [] u := by
  unfold fX7_isEmpty
  refine r_aload_n dX7_isEmpty_0 rfl ?_
  refine r_get 1 1 flX7_15 rfl (v := .int (gI u 1 1)) rfl dX7_isEmpty_1 ?_
  refine r_if_ne dX7_isEmpty_4 (tgt := 11) rfl ?_ ?_
  · refine r_iconst dX7_isEmpty_11 (v := 0) rfl ?_
    exact r_zreturn0 rfl dX7_isEmpty_12
  · refine r_iconst dX7_isEmpty_7 (v := 1) rfl ?_
    refine r_goto dX7_isEmpty_8 (tgt := 12) rfl ?_
    exact r_zreturn1 rfl dX7_isEmpty_12
theorem okX7_isEmpty (u : US) : ∀ r, fX7_isEmpty u = some r → MetC mX7_isEmpty 0 [.ref 1] u (tI r) :=
  met_of (by decide +kernel) (Nat.le_of_ble_eq_true rfl) rfl (sX7_isEmpty u)
def fX8_panesHiding_4 (v1 : Int32) : Nat → Int32 → Int32 → US → Option (Int32 × US)
  | 0, _, _, _ => none
  | n + 1, v2, v3, u => (if (gI u 3 3) ≤ v3 then some (v2, u) else gd (inb v3 8) ((if (v1 &&& ((gA u 19 v3) ^^^ (-1))) = 0 then fX8_panesHiding_4 v1 n (v2 ||| (1 <<< (v3 &&& 31))) (v3 + 1) u else fX8_panesHiding_4 v1 n v2 (v3 + 1) u)))
set_option maxRecDepth 20000 in
theorem sX8_panesHiding_4 (v1 : Int32) : ∀ (n : Nat) (v2 : Int32) (v3 : Int32) (u : US), Sim tI mX8_panesHiding 0 (fX8_panesHiding_4 v1 n v2 v3 u) 4 [some (.ref 3), some (.int v1), some (.int v2), some (.int v3)] [] u := by
  intro n
  induction n with
  | zero =>
    intro v2 v3 u
    rw [fX8_panesHiding_4.eq_1]
    exact r_none
  | succ n ih =>
    intro v2 v3 u
    rw [fX8_panesHiding_4.eq_2]
    refine r_iload_n dX8_panesHiding_4 rfl ?_
    refine r_aload_n dX8_panesHiding_5 rfl ?_
    refine r_get 3 3 flX8_47 rfl (v := .int (gI u 3 3)) rfl dX8_panesHiding_6 ?_
    refine r_icmp_ge dX8_panesHiding_9 (tgt := 37) rfl ?_ ?_
    · refine r_iload_n dX8_panesHiding_37 rfl ?_
      exact r_ireturn rfl dX8_panesHiding_38
    · refine r_iload_n dX8_panesHiding_12 rfl ?_
      refine r_aload_n dX8_panesHiding_13 rfl ?_
      refine r_get 3 8 flX8_28 rfl (v := .ref 19) rfl dX8_panesHiding_14 ?_
      refine r_iload_n dX8_panesHiding_17 rfl ?_
      refine r_iald 19 rfl dX8_panesHiding_18 ?_
      refine r_iconst dX8_panesHiding_19 (v := -1) rfl ?_
      refine r_ixor dX8_panesHiding_20 ?_
      refine r_iand dX8_panesHiding_21 ?_
      refine r_if_ne dX8_panesHiding_22 (tgt := 31) rfl ?_ ?_
      · refine r_iinc dX8_panesHiding_31 (Nat.le_of_ble_eq_true rfl) rfl (v := v3 + 1) rfl (ls2 := [some (.ref 3), some (.int v1), some (.int v2), some (.int (v3 + 1))]) rfl ?_
        refine r_goto dX8_panesHiding_34 (tgt := 4) rfl ?_
        exact ih v2 (v3 + 1) u
      · refine r_iload_n dX8_panesHiding_25 rfl ?_
        refine r_iconst dX8_panesHiding_26 (v := 1) rfl ?_
        refine r_iload_n dX8_panesHiding_27 rfl ?_
        refine r_ishl dX8_panesHiding_28 ?_
        refine r_ior dX8_panesHiding_29 ?_
        refine r_istore_n dX8_panesHiding_30 (Nat.le_of_ble_eq_true rfl) (ls2 := [some (.ref 3), some (.int v1), some (.int (v2 ||| (1 <<< (v3 &&& 31)))), some (.int v3)]) rfl ?_
        refine r_iinc dX8_panesHiding_31 (Nat.le_of_ble_eq_true rfl) rfl (v := v3 + 1) rfl (ls2 := [some (.ref 3), some (.int v1), some (.int (v2 ||| (1 <<< (v3 &&& 31)))), some (.int (v3 + 1))]) rfl ?_
        refine r_goto dX8_panesHiding_34 (tgt := 4) rfl ?_
        exact ih (v2 ||| (1 <<< (v3 &&& 31))) (v3 + 1) u
def fX8_panesHiding (v1 : Int32) (u : US) : Option (Int32 × US) :=
  fX8_panesHiding_4 v1 FU 0 0 u
set_option maxRecDepth 20000 in
theorem sX8_panesHiding (v1 : Int32) (u : US) : Sim tI mX8_panesHiding 0 (fX8_panesHiding v1 u) 0 [some (.ref 3), some (.int v1), none, none] [] u := by
  unfold fX8_panesHiding
  refine r_iconst dX8_panesHiding_0 (v := 0) rfl ?_
  refine r_istore_n dX8_panesHiding_1 (Nat.le_of_ble_eq_true rfl) (ls2 := [some (.ref 3), some (.int v1), some (.int 0), none]) rfl ?_
  refine r_iconst dX8_panesHiding_2 (v := 0) rfl ?_
  refine r_istore_n dX8_panesHiding_3 (Nat.le_of_ble_eq_true rfl) (ls2 := [some (.ref 3), some (.int v1), some (.int 0), some (.int 0)]) rfl ?_
  exact sX8_panesHiding_4 v1 FU 0 0 u
theorem okX8_panesHiding (v1 : Int32) (u : US) : ∀ r, fX8_panesHiding v1 u = some r → MetC mX8_panesHiding 0 [.ref 3, .int v1] u (tI r) :=
  met_of (by decide +kernel) (Nat.le_of_ble_eq_true rfl) rfl (sX8_panesHiding v1 u)
def fX11_readClaims_104 (s1 : Int32) (u : US) : Option (Int32 × US) :=
  oB (fX5_demand s1 u) fun r1 u1 => oB (fX5_answer 0 u1) fun r2 u2 => some (r2, u2)
set_option maxRecDepth 20000 in
theorem sX11_readClaims_104 (s1 : Int32) (u : US) : Sim tI mX11_readClaims 3 (fX11_readClaims_104 s1 u) 104 [some (.ref 0), none, none, none] [.int s1, .ref 2] u := by
  unfold fX11_readClaims_104
  refine c_VI (As := [.int s1]) kvX11_423 rfl (by decide) (okX5_demand s1 u) rfl (Nat.le_of_ble_eq_true rfl) rfl dX11_readClaims_104 (fun r1 u1 => ?_)
  refine r_pop dX11_readClaims_107 rfl ?_
  refine r_aload_n dX11_readClaims_108 rfl ?_
  refine r_get 0 1 flX11_21 rfl (v := .ref 2) rfl dX11_readClaims_109 ?_
  refine r_iconst dX11_readClaims_112 (v := 0) rfl ?_
  refine c_VI (As := [.int 0]) kvX11_112 rfl (by decide) (okX5_answer 0 u1) rfl (Nat.le_of_ble_eq_true rfl) rfl dX11_readClaims_113 (fun r2 u2 => ?_)
  exact r_ireturn rfl dX11_readClaims_116
def fX11_readClaims_91 (v1 : Int32) (u : US) : Option (Int32 × US) :=
  (if v1 = 0 then fX11_readClaims_104 1 u else fX11_readClaims_104 0 u)
set_option maxRecDepth 20000 in
theorem sX11_readClaims_91 (v1 : Int32) (u : US) : Sim tI mX11_readClaims 3 (fX11_readClaims_91 v1 u) 91 [some (.ref 0), some (.int v1), none, none] [] u := by
  unfold fX11_readClaims_91
  refine r_aload_n dX11_readClaims_91 rfl ?_
  refine r_get 0 1 flX11_21 rfl (v := .ref 2) rfl dX11_readClaims_92 ?_
  refine r_iload_n dX11_readClaims_95 rfl ?_
  refine r_if_ne dX11_readClaims_96 (tgt := 103) rfl ?_ ?_
  · refine r_iconst dX11_readClaims_103 (v := 0) rfl ?_
    refine r_mk [true, false, false, false] (ls2 := [some (.ref 0), none, none, none]) rfl ?_
    exact sX11_readClaims_104 0 u
  · refine r_iconst dX11_readClaims_99 (v := 1) rfl ?_
    refine r_goto dX11_readClaims_100 (tgt := 104) rfl ?_
    refine r_mk [true, false, false, false] (ls2 := [some (.ref 0), none, none, none]) rfl ?_
    exact sX11_readClaims_104 1 u
def fX11_readClaims_58 (k27 : Int32 → Int32 → US → Option (Int32 × US)) (v2 : Int32) (v3 : Int32) (s1 : Int32) (u : US) : Option (Int32 × US) :=
  oB (fX5_demand s1 u) fun r1 u1 => oB (fX8_panesHiding v3 u1) fun r2 u2 => oV (fX0_add r2 u2) fun u3 => oB (fX5_another u3) fun r4 u4 => k27 r4 (v2 + 1) u4
set_option maxRecDepth 20000 in
theorem sX11_readClaims_58 (k27 : Int32 → Int32 → US → Option (Int32 × US)) (hk27 : ∀ (v1 : Int32) (v2 : Int32) (u : US), Sim tI mX11_readClaims 3 (k27 v1 v2 u) 27 [some (.ref 0), some (.int v1), some (.int v2), none] [] u) (v2 : Int32) (v3 : Int32) (s1 : Int32) (u : US) : Sim tI mX11_readClaims 3 (fX11_readClaims_58 k27 v2 v3 s1 u) 58 [some (.ref 0), none, some (.int v2), some (.int v3)] [.int s1, .ref 2] u := by
  unfold fX11_readClaims_58
  refine c_VI (As := [.int s1]) kvX11_423 rfl (by decide) (okX5_demand s1 u) rfl (Nat.le_of_ble_eq_true rfl) rfl dX11_readClaims_58 (fun r1 u1 => ?_)
  refine r_pop dX11_readClaims_61 rfl ?_
  refine r_aload_n dX11_readClaims_62 rfl ?_
  refine r_get 0 11 flX11_85 rfl (v := .ref 12) rfl dX11_readClaims_63 ?_
  refine r_aload_n dX11_readClaims_66 rfl ?_
  refine r_get 0 2 flX11_28 rfl (v := .ref 3) rfl dX11_readClaims_67 ?_
  refine r_iload_n dX11_readClaims_70 rfl ?_
  refine c_VI (As := [.int v3]) kvX11_427 rfl (by decide) (okX8_panesHiding v3 u1) rfl (Nat.le_of_ble_eq_true rfl) rfl dX11_readClaims_71 (fun r2 u2 => ?_)
  refine c_VV (As := [.int r2]) kvX11_430 rfl (by decide) (okX0_add r2 u2) rfl (Nat.le_of_ble_eq_true rfl) rfl dX11_readClaims_74 (fun u3 => ?_)
  refine r_aload_n dX11_readClaims_77 rfl ?_
  refine r_get 0 1 flX11_21 rfl (v := .ref 2) rfl dX11_readClaims_78 ?_
  refine c_VI (As := []) kvX11_431 rfl (by decide) (okX5_another u3) rfl (Nat.le_of_ble_eq_true rfl) rfl dX11_readClaims_81 (fun r4 u4 => ?_)
  refine r_istore_n dX11_readClaims_84 (Nat.le_of_ble_eq_true rfl) (ls2 := [some (.ref 0), some (.int r4), some (.int v2), some (.int v3)]) rfl ?_
  refine r_iinc dX11_readClaims_85 (Nat.le_of_ble_eq_true rfl) rfl (v := v2 + 1) rfl (ls2 := [some (.ref 0), some (.int r4), some (.int (v2 + 1)), some (.int v3)]) rfl ?_
  refine r_goto dX11_readClaims_88 (tgt := 27) rfl ?_
  refine r_mk [true, true, true, false] (ls2 := [some (.ref 0), some (.int r4), some (.int (v2 + 1)), none]) rfl ?_
  exact hk27 r4 (v2 + 1) u4
def fX11_readClaims_27 : Nat → Int32 → Int32 → US → Option (Int32 × US)
  | 0, _, _, _ => none
  | n + 1, v1, v2, u => (if v1 = 0 then fX11_readClaims_91 v1 u else (if (8 : Int32) ≤ v2 then fX11_readClaims_91 v1 u else oB (fX5_kinds u) fun r1 u1 => (if r1 = 0 then fX11_readClaims_58 (fX11_readClaims_27 n) v2 r1 0 u1 else fX11_readClaims_58 (fX11_readClaims_27 n) v2 r1 1 u1)))
set_option maxRecDepth 20000 in
theorem sX11_readClaims_27 : ∀ (n : Nat) (v1 : Int32) (v2 : Int32) (u : US), Sim tI mX11_readClaims 3 (fX11_readClaims_27 n v1 v2 u) 27 [some (.ref 0), some (.int v1), some (.int v2), none] [] u := by
  intro n
  induction n with
  | zero =>
    intro v1 v2 u
    rw [fX11_readClaims_27.eq_1]
    exact r_none
  | succ n ih =>
    intro v1 v2 u
    rw [fX11_readClaims_27.eq_2]
    refine r_iload_n dX11_readClaims_27 rfl ?_
    refine r_if_eq dX11_readClaims_28 (tgt := 91) rfl ?_ ?_
    · refine r_mk [true, true, false, false] (ls2 := [some (.ref 0), some (.int v1), none, none]) rfl ?_
      exact sX11_readClaims_91 v1 u
    · refine r_iload_n dX11_readClaims_31 rfl ?_
      refine r_bipush dX11_readClaims_32 (v := 8) rfl ?_
      refine r_icmp_ge dX11_readClaims_34 (tgt := 91) rfl ?_ ?_
      · refine r_mk [true, true, false, false] (ls2 := [some (.ref 0), some (.int v1), none, none]) rfl ?_
        exact sX11_readClaims_91 v1 u
      · refine r_aload_n dX11_readClaims_37 rfl ?_
        refine r_get 0 1 flX11_21 rfl (v := .ref 2) rfl dX11_readClaims_38 ?_
        refine c_VI (As := []) kvX11_420 rfl (by decide) (okX5_kinds u) rfl (Nat.le_of_ble_eq_true rfl) rfl dX11_readClaims_41 (fun r1 u1 => ?_)
        refine r_istore_n dX11_readClaims_44 (Nat.le_of_ble_eq_true rfl) (ls2 := [some (.ref 0), some (.int v1), some (.int v2), some (.int r1)]) rfl ?_
        refine r_aload_n dX11_readClaims_45 rfl ?_
        refine r_get 0 1 flX11_21 rfl (v := .ref 2) rfl dX11_readClaims_46 ?_
        refine r_iload_n dX11_readClaims_49 rfl ?_
        refine r_if_eq dX11_readClaims_50 (tgt := 57) rfl ?_ ?_
        · refine r_iconst dX11_readClaims_57 (v := 0) rfl ?_
          refine r_mk [true, false, true, true] (ls2 := [some (.ref 0), none, some (.int v2), some (.int r1)]) rfl ?_
          exact sX11_readClaims_58 (fX11_readClaims_27 n) ih v2 r1 0 u1
        · refine r_iconst dX11_readClaims_53 (v := 1) rfl ?_
          refine r_goto dX11_readClaims_54 (tgt := 58) rfl ?_
          refine r_mk [true, false, true, true] (ls2 := [some (.ref 0), none, some (.int v2), some (.int r1)]) rfl ?_
          exact sX11_readClaims_58 (fX11_readClaims_27 n) ih v2 r1 1 u1
def fX11_readClaims (u : US) : Option (Int32 × US) :=
  oV (fX5_open 80 u) fun u1 => oB (fX7_isEmpty u1) fun r2 u2 => (if r2 = 0 then fX11_readClaims_27 FU 1 0 u2 else fX11_readClaims_27 FU 0 0 u2)
set_option maxRecDepth 20000 in
theorem sX11_readClaims (u : US) : Sim tI mX11_readClaims 3 (fX11_readClaims u) 0 [some (.ref 0), none, none, none] [] u := by
  unfold fX11_readClaims
  refine r_aload_n dX11_readClaims_0 rfl ?_
  refine r_get 0 1 flX11_21 rfl (v := .ref 2) rfl dX11_readClaims_1 ?_
  refine r_bipush dX11_readClaims_4 (v := 80) rfl ?_
  refine c_VV (As := [.int 80]) kvX11_104 rfl (by decide) (okX5_open 80 u) rfl (Nat.le_of_ble_eq_true rfl) rfl dX11_readClaims_6 (fun u1 => ?_)
  refine r_aload_n dX11_readClaims_9 rfl ?_
  refine r_get 0 0 flX11_10 rfl (v := .ref 1) rfl dX11_readClaims_10 ?_
  refine c_VI (As := []) kvX11_129 rfl (by decide) (okX7_isEmpty u1) rfl (Nat.le_of_ble_eq_true rfl) rfl dX11_readClaims_13 (fun r2 u2 => ?_)
  refine r_if_ne dX11_readClaims_16 (tgt := 23) rfl ?_ ?_
  · refine r_iconst dX11_readClaims_23 (v := 0) rfl ?_
    refine r_istore_n dX11_readClaims_24 (Nat.le_of_ble_eq_true rfl) (ls2 := [some (.ref 0), some (.int 0), none, none]) rfl ?_
    refine r_iconst dX11_readClaims_25 (v := 0) rfl ?_
    refine r_istore_n dX11_readClaims_26 (Nat.le_of_ble_eq_true rfl) (ls2 := [some (.ref 0), some (.int 0), some (.int 0), none]) rfl ?_
    exact sX11_readClaims_27 FU 0 0 u2
  · refine r_iconst dX11_readClaims_19 (v := 1) rfl ?_
    refine r_goto dX11_readClaims_20 (tgt := 24) rfl ?_
    refine r_istore_n dX11_readClaims_24 (Nat.le_of_ble_eq_true rfl) (ls2 := [some (.ref 0), some (.int 1), none, none]) rfl ?_
    refine r_iconst dX11_readClaims_25 (v := 0) rfl ?_
    refine r_istore_n dX11_readClaims_26 (Nat.le_of_ble_eq_true rfl) (ls2 := [some (.ref 0), some (.int 1), some (.int 0), none]) rfl ?_
    exact sX11_readClaims_27 FU 1 0 u2
theorem okX11_readClaims (u : US) : ∀ r, fX11_readClaims u = some r → MetC mX11_readClaims 3 [.ref 0] u (tI r) :=
  met_of (by decide +kernel) (Nat.le_of_ble_eq_true rfl) rfl (sX11_readClaims u)
def fX11_claims (u : US) : Option (Int32 × US) :=
  oV (fX0_clear u) fun u1 => oB (fX11_readClaims u1) fun r2 u2 => oV (fX7_clear u2) fun u3 => (if r2 = 0 then oB (fX0_tellMost u3) fun r4 u4 => some (r4, u4) else some (r2, u3))
set_option maxRecDepth 20000 in
theorem sX11_claims (u : US) : Sim tI mX11_claims 404 (fX11_claims u) 0 [some (.ref 0), none] [] u := by
  unfold fX11_claims
  refine r_aload_n dX11_claims_0 rfl ?_
  refine r_get 0 11 flX11_85 rfl (v := .ref 12) rfl dX11_claims_1 ?_
  refine c_VV (As := []) kvX11_412 rfl (by decide) (okX0_clear u) rfl (Nat.le_of_ble_eq_true rfl) rfl dX11_claims_4 (fun u1 => ?_)
  refine r_aload_n dX11_claims_7 rfl ?_
  refine c_VI (As := []) kvX11_413 rfl (by decide) (okX11_readClaims u1) rfl (Nat.le_of_ble_eq_true rfl) rfl dX11_claims_8 (fun r2 u2 => ?_)
  refine r_istore_n dX11_claims_11 (Nat.le_of_ble_eq_true rfl) (ls2 := [some (.ref 0), some (.int r2)]) rfl ?_
  refine r_aload_n dX11_claims_12 rfl ?_
  refine r_get 0 0 flX11_10 rfl (v := .ref 1) rfl dX11_claims_13 ?_
  refine c_VV (As := []) kvX11_115 rfl (by decide) (okX7_clear u2) rfl (Nat.le_of_ble_eq_true rfl) rfl dX11_claims_16 (fun u3 => ?_)
  refine r_iload_n dX11_claims_19 rfl ?_
  refine r_if_ne dX11_claims_20 (tgt := 37) rfl ?_ ?_
  · refine r_iload_n dX11_claims_37 rfl ?_
    exact r_ireturn rfl dX11_claims_38
  · refine r_aload_n dX11_claims_23 rfl ?_
    refine r_get 0 11 flX11_85 rfl (v := .ref 12) rfl dX11_claims_24 ?_
    refine r_aload_n dX11_claims_27 rfl ?_
    refine r_get 0 7 flX11_55 rfl (v := .ref 8) rfl dX11_claims_28 ?_
    refine c_VI (As := [.ref 8]) kvX11_416 rfl (by decide) (okX0_tellMost u3) rfl (Nat.le_of_ble_eq_true rfl) rfl dX11_claims_31 (fun r4 u4 => ?_)
    refine r_goto dX11_claims_34 (tgt := 38) rfl ?_
    exact r_ireturn rfl dX11_claims_38
theorem okX11_claims (u : US) : ∀ r, fX11_claims u = some r → MetC mX11_claims 404 [.ref 0] u (tI r) :=
  met_of (by decide +kernel) (Nat.le_of_ble_eq_true rfl) rfl (sX11_claims u)
def fX8_panesHung (v1 : Nat) (u : US) : Option (Int32 × US) :=
  gd (isMom v1) (oB (fX11_allOf (gI u 3 3) u) fun r1 u1 => oB (fX8_panesIn v1 (-1) u1) fun r2 u2 => some (r1 &&& (r2 ^^^ (-1)), u2))
set_option maxRecDepth 20000 in
theorem sX8_panesHung (v1 : Nat) (u : US) : Sim tI mX8_panesHung 1 (fX8_panesHung v1 u) 0 [some (.ref 3), some (.ref v1)] [] u := by
  unfold fX8_panesHung
  refine r_gd (fun h1 => ?_)
  refine r_aload_n dX8_panesHung_0 rfl ?_
  refine r_get 3 3 flX8_47 rfl (v := .int (gI u 3 3)) rfl dX8_panesHung_1 ?_
  refine c_NI (As := [.int (gI u 3 3)]) knX8_60 (by decide) (okX11_allOf (gI u 3 3) u) rfl (Nat.le_of_ble_eq_true rfl) rfl dX8_panesHung_4 (fun r1 u1 => ?_)
  refine r_aload_n dX8_panesHung_7 rfl ?_
  refine r_aload_n dX8_panesHung_8 rfl ?_
  refine r_iconst dX8_panesHung_9 (v := -1) rfl ?_
  refine c_VI (As := [.ref v1, .int (-1)]) kvX8_134 rfl (by decide) (okX8_panesIn v1 (-1) u1) rfl (Nat.le_of_ble_eq_true rfl) rfl dX8_panesHung_10 (fun r2 u2 => ?_)
  refine r_iconst dX8_panesHung_13 (v := -1) rfl ?_
  refine r_ixor dX8_panesHung_14 ?_
  refine r_iand dX8_panesHung_15 ?_
  exact r_ireturn rfl dX8_panesHung_16
theorem okX8_panesHung (v1 : Nat) (u : US) : ∀ r, fX8_panesHung v1 u = some r → MetC mX8_panesHung 1 [.ref 3, .ref v1] u (tI r) :=
  met_of (by decide +kernel) (Nat.le_of_ble_eq_true rfl) rfl (sX8_panesHung v1 u)
def fX11_count (v1 : Int32) (u : US) : Option (Int32 × US) :=
  (if v1 = 0 then some (gI u 3 0, u) else (if v1 = 1 then some (gI u 3 1, u) else (if v1 = 2 then some (gI u 3 2, u) else (if v1 = 3 then some (gI u 3 3, u) else (if v1 = 4 then some (gI u 3 4, u) else (if v1 = 5 then some (gI u 4 4, u) else (if v1 = 6 then some (gI u 4 3, u) else (if v1 = 7 then oB (fX8_panesHung 4 u) fun r1 u1 => some (r1, u1) else (if v1 = 8 then some (gI u 11 3, u) else (if v1 = 9 then some (gI u 7 3, u) else (if v1 = 10 then some (gI u 8 1, u) else (if v1 = 11 then some (gI u 1 1, u) else some ((-100), u)))))))))))))
set_option maxRecDepth 20000 in
theorem sX11_count (v1 : Int32) (u : US) : Sim tI mX11_count 2 (fX11_count v1 u) 0 [some (.ref 0), some (.int v1)] [] u := by
  unfold fX11_count
  refine r_iload_n dX11_count_0 rfl ?_
  refine r_ite (fun hc0 => ?_) (fun hc0 => ?_)
  · refine r_tabIn dX11_count_1 (off := 63) (by rw [hc0]; decide) (by rw [hc0]; decide) (by rw [hc0]; rfl) (tgt := 64) rfl ?_
    refine r_aload_n dX11_count_64 rfl ?_
    refine r_get 0 2 flX11_28 rfl (v := .ref 3) rfl dX11_count_65 ?_
    refine r_get 3 0 flX11_316 rfl (v := .int (gI u 3 0)) rfl dX11_count_68 ?_
    exact r_ireturn rfl dX11_count_71
  refine r_ite (fun hc1 => ?_) (fun hc1 => ?_)
  · refine r_tabIn dX11_count_1 (off := 71) (by rw [hc1]; decide) (by rw [hc1]; decide) (by rw [hc1]; rfl) (tgt := 72) rfl ?_
    refine r_aload_n dX11_count_72 rfl ?_
    refine r_get 0 2 flX11_28 rfl (v := .ref 3) rfl dX11_count_73 ?_
    refine r_get 3 1 flX11_319 rfl (v := .int (gI u 3 1)) rfl dX11_count_76 ?_
    exact r_ireturn rfl dX11_count_79
  refine r_ite (fun hc2 => ?_) (fun hc2 => ?_)
  · refine r_tabIn dX11_count_1 (off := 79) (by rw [hc2]; decide) (by rw [hc2]; decide) (by rw [hc2]; rfl) (tgt := 80) rfl ?_
    refine r_aload_n dX11_count_80 rfl ?_
    refine r_get 0 2 flX11_28 rfl (v := .ref 3) rfl dX11_count_81 ?_
    refine r_get 3 2 flX11_470 rfl (v := .int (gI u 3 2)) rfl dX11_count_84 ?_
    exact r_ireturn rfl dX11_count_87
  refine r_ite (fun hc3 => ?_) (fun hc3 => ?_)
  · refine r_tabIn dX11_count_1 (off := 87) (by rw [hc3]; decide) (by rw [hc3]; decide) (by rw [hc3]; rfl) (tgt := 88) rfl ?_
    refine r_aload_n dX11_count_88 rfl ?_
    refine r_get 0 2 flX11_28 rfl (v := .ref 3) rfl dX11_count_89 ?_
    refine r_get 3 3 flX11_357 rfl (v := .int (gI u 3 3)) rfl dX11_count_92 ?_
    exact r_ireturn rfl dX11_count_95
  refine r_ite (fun hc4 => ?_) (fun hc4 => ?_)
  · refine r_tabIn dX11_count_1 (off := 95) (by rw [hc4]; decide) (by rw [hc4]; decide) (by rw [hc4]; rfl) (tgt := 96) rfl ?_
    refine r_aload_n dX11_count_96 rfl ?_
    refine r_get 0 2 flX11_28 rfl (v := .ref 3) rfl dX11_count_97 ?_
    refine r_get 3 4 flX11_267 rfl (v := .int (gI u 3 4)) rfl dX11_count_100 ?_
    exact r_ireturn rfl dX11_count_103
  refine r_ite (fun hc5 => ?_) (fun hc5 => ?_)
  · refine r_tabIn dX11_count_1 (off := 103) (by rw [hc5]; decide) (by rw [hc5]; decide) (by rw [hc5]; rfl) (tgt := 104) rfl ?_
    refine r_aload_n dX11_count_104 rfl ?_
    refine r_get 0 3 flX11_35 rfl (v := .ref 4) rfl dX11_count_105 ?_
    refine r_get 4 4 flX11_280 rfl (v := .int (gI u 4 4)) rfl dX11_count_108 ?_
    exact r_ireturn rfl dX11_count_111
  refine r_ite (fun hc6 => ?_) (fun hc6 => ?_)
  · refine r_tabIn dX11_count_1 (off := 111) (by rw [hc6]; decide) (by rw [hc6]; decide) (by rw [hc6]; rfl) (tgt := 112) rfl ?_
    refine r_aload_n dX11_count_112 rfl ?_
    refine r_get 0 3 flX11_35 rfl (v := .ref 4) rfl dX11_count_113 ?_
    refine r_get 4 3 flX11_259 rfl (v := .int (gI u 4 3)) rfl dX11_count_116 ?_
    exact r_ireturn rfl dX11_count_119
  refine r_ite (fun hc7 => ?_) (fun hc7 => ?_)
  · refine r_tabIn dX11_count_1 (off := 119) (by rw [hc7]; decide) (by rw [hc7]; decide) (by rw [hc7]; rfl) (tgt := 120) rfl ?_
    refine r_aload_n dX11_count_120 rfl ?_
    refine r_get 0 2 flX11_28 rfl (v := .ref 3) rfl dX11_count_121 ?_
    refine r_aload_n dX11_count_124 rfl ?_
    refine r_get 0 3 flX11_35 rfl (v := .ref 4) rfl dX11_count_125 ?_
    refine c_VI (As := [.ref 4]) kvX11_473 rfl (by decide) (okX8_panesHung 4 u) rfl (Nat.le_of_ble_eq_true rfl) rfl dX11_count_128 (fun r1 u1 => ?_)
    exact r_ireturn rfl dX11_count_131
  refine r_ite (fun hc8 => ?_) (fun hc8 => ?_)
  · refine r_tabIn dX11_count_1 (off := 131) (by rw [hc8]; decide) (by rw [hc8]; decide) (by rw [hc8]; rfl) (tgt := 132) rfl ?_
    refine r_aload_n dX11_count_132 rfl ?_
    refine r_get 0 10 flX11_78 rfl (v := .ref 11) rfl dX11_count_133 ?_
    refine r_get 11 3 flX11_476 rfl (v := .int (gI u 11 3)) rfl dX11_count_136 ?_
    exact r_ireturn rfl dX11_count_139
  refine r_ite (fun hc9 => ?_) (fun hc9 => ?_)
  · refine r_tabIn dX11_count_1 (off := 139) (by rw [hc9]; decide) (by rw [hc9]; decide) (by rw [hc9]; rfl) (tgt := 140) rfl ?_
    refine r_aload_n dX11_count_140 rfl ?_
    refine r_get 0 6 flX11_48 rfl (v := .ref 7) rfl dX11_count_141 ?_
    refine r_get 7 3 flX11_479 rfl (v := .int (gI u 7 3)) rfl dX11_count_144 ?_
    exact r_ireturn rfl dX11_count_147
  refine r_ite (fun hc10 => ?_) (fun hc10 => ?_)
  · refine r_tabIn dX11_count_1 (off := 147) (by rw [hc10]; decide) (by rw [hc10]; decide) (by rw [hc10]; rfl) (tgt := 148) rfl ?_
    refine r_aload_n dX11_count_148 rfl ?_
    refine r_get 0 7 flX11_55 rfl (v := .ref 8) rfl dX11_count_149 ?_
    refine r_get 8 1 flX11_482 rfl (v := .int (gI u 8 1)) rfl dX11_count_152 ?_
    exact r_ireturn rfl dX11_count_155
  refine r_ite (fun hc11 => ?_) (fun hc11 => ?_)
  · refine r_tabIn dX11_count_1 (off := 155) (by rw [hc11]; decide) (by rw [hc11]; decide) (by rw [hc11]; rfl) (tgt := 156) rfl ?_
    refine r_aload_n dX11_count_156 rfl ?_
    refine r_get 0 0 flX11_10 rfl (v := .ref 1) rfl dX11_count_157 ?_
    refine r_get 1 1 flX11_483 rfl (v := .int (gI u 1 1)) rfl dX11_count_160 ?_
    exact r_ireturn rfl dX11_count_163
  have hn0 := ne_int hc0
  have hn1 := ne_int hc1
  have hn2 := ne_int hc2
  have hn3 := ne_int hc3
  have hn4 := ne_int hc4
  have hn5 := ne_int hc5
  have hn6 := ne_int hc6
  have hn7 := ne_int hc7
  have hn8 := ne_int hc8
  have hn9 := ne_int hc9
  have hn10 := ne_int hc10
  have hn11 := ne_int hc11
  rw [show (0 : Int32).toInt = 0 from rfl] at hn0
  rw [show (1 : Int32).toInt = 1 from rfl] at hn1
  rw [show (2 : Int32).toInt = 2 from rfl] at hn2
  rw [show (3 : Int32).toInt = 3 from rfl] at hn3
  rw [show (4 : Int32).toInt = 4 from rfl] at hn4
  rw [show (5 : Int32).toInt = 5 from rfl] at hn5
  rw [show (6 : Int32).toInt = 6 from rfl] at hn6
  rw [show (7 : Int32).toInt = 7 from rfl] at hn7
  rw [show (8 : Int32).toInt = 8 from rfl] at hn8
  rw [show (9 : Int32).toInt = 9 from rfl] at hn9
  rw [show (10 : Int32).toInt = 10 from rfl] at hn10
  rw [show (11 : Int32).toInt = 11 from rfl] at hn11
  refine r_tabOut dX11_count_1 (by omega) (tgt := 164) rfl ?_
  refine r_bipush dX11_count_164 (v := -100) rfl ?_
  exact r_ireturn rfl dX11_count_166
theorem okX11_count (v1 : Int32) (u : US) : ∀ r, fX11_count v1 u = some r → MetC mX11_count 2 [.ref 0, .int v1] u (tI r) :=
  met_of (by decide +kernel) (Nat.le_of_ble_eq_true rfl) rfl (sX11_count v1 u)
def fX11_isSort (v0 : Int32) (v1 : Int32) (u : US) : Option (Int32 × US) :=
  (if v0 < 0 then some (0, u) else (if (8 : Int32) ≤ v0 then some (0, u) else (if v1 < 0 then some (0, u) else (if (10 : Int32) ≤ v1 then some (0, u) else some (1, u)))))
set_option maxRecDepth 20000 in
theorem sX11_isSort (v0 : Int32) (v1 : Int32) (u : US) : Sim tI mX11_isSort 0 (fX11_isSort v0 v1 u) 0 [some (.int v0), some (.int v1)] [] u := by
  unfold fX11_isSort
  refine r_iload_n dX11_isSort_0 rfl ?_
  refine r_if_lt dX11_isSort_1 (tgt := 24) rfl ?_ ?_
  · refine r_iconst dX11_isSort_24 (v := 0) rfl ?_
    exact r_zreturn0 rfl dX11_isSort_25
  · refine r_iload_n dX11_isSort_4 rfl ?_
    refine r_bipush dX11_isSort_5 (v := 8) rfl ?_
    refine r_icmp_ge dX11_isSort_7 (tgt := 24) rfl ?_ ?_
    · refine r_iconst dX11_isSort_24 (v := 0) rfl ?_
      exact r_zreturn0 rfl dX11_isSort_25
    · refine r_iload_n dX11_isSort_10 rfl ?_
      refine r_if_lt dX11_isSort_11 (tgt := 24) rfl ?_ ?_
      · refine r_iconst dX11_isSort_24 (v := 0) rfl ?_
        exact r_zreturn0 rfl dX11_isSort_25
      · refine r_iload_n dX11_isSort_14 rfl ?_
        refine r_bipush dX11_isSort_15 (v := 10) rfl ?_
        refine r_icmp_ge dX11_isSort_17 (tgt := 24) rfl ?_ ?_
        · refine r_iconst dX11_isSort_24 (v := 0) rfl ?_
          exact r_zreturn0 rfl dX11_isSort_25
        · refine r_iconst dX11_isSort_20 (v := 1) rfl ?_
          refine r_goto dX11_isSort_21 (tgt := 25) rfl ?_
          exact r_zreturn1 rfl dX11_isSort_25
theorem okX11_isSort (v0 : Int32) (v1 : Int32) (u : US) : ∀ r, fX11_isSort v0 v1 u = some r → MetC mX11_isSort 0 [.int v0, .int v1] u (tI r) :=
  met_of (by decide +kernel) (Nat.le_of_ble_eq_true rfl) rfl (sX11_isSort v0 v1 u)
def fX9_isReached_2 (v1 : Int32) (v2 : Int32) : Nat → Int32 → US → Option (Int32 × US)
  | 0, _, _ => none
  | n + 1, v3, u => (if (gI u 3 4) ≤ v3 then some (0, u) else oB (fX11_has v1 v3 u) fun r1 u1 => (if r1 = 0 then fX9_isReached_2 v1 v2 n (v3 + 1) u1 else oB (fX8_reaches v3 v2 u1) fun r2 u2 => (if r2 = 0 then fX9_isReached_2 v1 v2 n (v3 + 1) u2 else some (1, u2))))
set_option maxRecDepth 20000 in
theorem sX9_isReached_2 (v1 : Int32) (v2 : Int32) : ∀ (n : Nat) (v3 : Int32) (u : US), Sim tI mX9_isReached 6 (fX9_isReached_2 v1 v2 n v3 u) 2 [some (.ref 10), some (.int v1), some (.int v2), some (.int v3)] [] u := by
  intro n
  induction n with
  | zero =>
    intro v3 u
    rw [fX9_isReached_2.eq_1]
    exact r_none
  | succ n ih =>
    intro v3 u
    rw [fX9_isReached_2.eq_2]
    refine r_iload_n dX9_isReached_2 rfl ?_
    refine r_aload_n dX9_isReached_3 rfl ?_
    refine r_get 10 0 flX9_15 rfl (v := .ref 3) rfl dX9_isReached_4 ?_
    refine r_get 3 4 flX9_50 rfl (v := .int (gI u 3 4)) rfl dX9_isReached_7 ?_
    refine r_icmp_ge dX9_isReached_10 (tgt := 41) rfl ?_ ?_
    · refine r_iconst dX9_isReached_41 (v := 0) rfl ?_
      exact r_zreturn0 rfl dX9_isReached_42
    · refine r_iload_n dX9_isReached_13 rfl ?_
      refine r_iload_n dX9_isReached_14 rfl ?_
      refine c_NI (As := [.int v1, .int v3]) knX9_43 (by decide) (okX11_has v1 v3 u) rfl (Nat.le_of_ble_eq_true rfl) rfl dX9_isReached_15 (fun r1 u1 => ?_)
      refine r_if_eq dX9_isReached_18 (tgt := 35) rfl ?_ ?_
      · refine r_iinc dX9_isReached_35 (Nat.le_of_ble_eq_true rfl) rfl (v := v3 + 1) rfl (ls2 := [some (.ref 10), some (.int v1), some (.int v2), some (.int (v3 + 1))]) rfl ?_
        refine r_goto dX9_isReached_38 (tgt := 2) rfl ?_
        exact ih (v3 + 1) u1
      · refine r_aload_n dX9_isReached_21 rfl ?_
        refine r_get 10 0 flX9_15 rfl (v := .ref 3) rfl dX9_isReached_22 ?_
        refine r_iload_n dX9_isReached_25 rfl ?_
        refine r_iload_n dX9_isReached_26 rfl ?_
        refine c_VI (As := [.int v3, .int v2]) kvX9_53 rfl (by decide) (okX8_reaches v3 v2 u1) rfl (Nat.le_of_ble_eq_true rfl) rfl dX9_isReached_27 (fun r2 u2 => ?_)
        refine r_if_eq dX9_isReached_30 (tgt := 35) rfl ?_ ?_
        · refine r_iinc dX9_isReached_35 (Nat.le_of_ble_eq_true rfl) rfl (v := v3 + 1) rfl (ls2 := [some (.ref 10), some (.int v1), some (.int v2), some (.int (v3 + 1))]) rfl ?_
          refine r_goto dX9_isReached_38 (tgt := 2) rfl ?_
          exact ih (v3 + 1) u2
        · refine r_iconst dX9_isReached_33 (v := 1) rfl ?_
          exact r_zreturn1 rfl dX9_isReached_34
def fX9_isReached (v1 : Int32) (v2 : Int32) (u : US) : Option (Int32 × US) :=
  fX9_isReached_2 v1 v2 FU 0 u
set_option maxRecDepth 20000 in
theorem sX9_isReached (v1 : Int32) (v2 : Int32) (u : US) : Sim tI mX9_isReached 6 (fX9_isReached v1 v2 u) 0 [some (.ref 10), some (.int v1), some (.int v2), none] [] u := by
  unfold fX9_isReached
  refine r_iconst dX9_isReached_0 (v := 0) rfl ?_
  refine r_istore_n dX9_isReached_1 (Nat.le_of_ble_eq_true rfl) (ls2 := [some (.ref 10), some (.int v1), some (.int v2), some (.int 0)]) rfl ?_
  exact sX9_isReached_2 v1 v2 FU 0 u
theorem okX9_isReached (v1 : Int32) (v2 : Int32) (u : US) : ∀ r, fX9_isReached v1 v2 u = some r → MetC mX9_isReached 6 [.ref 10, .int v1, .int v2] u (tI r) :=
  met_of (by decide +kernel) (Nat.le_of_ble_eq_true rfl) rfl (sX9_isReached v1 v2 u)
def fX9_roomsLetting_6 (v1 : Nat) (v2 : Int32) (v3 : Int32) (v4 : Int32) : Nat → Int32 → Int32 → US → Option (Int32 × US)
  | 0, _, _, _ => none
  | n + 1, v5, v6, u => (if (gI u 3 3) ≤ v6 then some (v5, u) else gd (inb v6 (ln (fpt v1 2))) ((if (gA u (fpt v1 2) v6) = (-1) then fX9_roomsLetting_6 v1 v2 v3 v4 n v5 (v6 + 1) u else oB (fX11_has v5 (gA u (fpt v1 2) v6) u) fun r1 u1 => (if r1 = 0 then oB (fX8_lets v1 v2 v6 v3 v4 u1) fun r2 u2 => (if r2 = 0 then fX9_roomsLetting_6 v1 v2 v3 v4 n v5 (v6 + 1) u2 else fX9_roomsLetting_6 v1 v2 v3 v4 n (v5 ||| (1 <<< ((gA u (fpt v1 2) v6) &&& 31))) (v6 + 1) u2) else fX9_roomsLetting_6 v1 v2 v3 v4 n v5 (v6 + 1) u1))))
set_option maxRecDepth 20000 in
theorem sX9_roomsLetting_6 (v1 : Nat) (v2 : Int32) (v3 : Int32) (v4 : Int32) (h1 : isMom v1 = true) : ∀ (n : Nat) (v5 : Int32) (v6 : Int32) (u : US), Sim tI mX9_roomsLetting 4 (fX9_roomsLetting_6 v1 v2 v3 v4 n v5 v6 u) 6 [some (.ref 10), some (.ref v1), some (.int v2), some (.int v3), some (.int v4), some (.int v5), some (.int v6), none] [] u := by
  intro n
  induction n with
  | zero =>
    intro v5 v6 u
    rw [fX9_roomsLetting_6.eq_1]
    exact r_none
  | succ n ih =>
    intro v5 v6 u
    rw [fX9_roomsLetting_6.eq_2]
    refine r_iload dX9_roomsLetting_6 rfl ?_
    refine r_aload_n dX9_roomsLetting_8 rfl ?_
    refine r_get 10 0 flX9_15 rfl (v := .ref 3) rfl dX9_roomsLetting_9 ?_
    refine r_get 3 3 flX9_33 rfl (v := .int (gI u 3 3)) rfl dX9_roomsLetting_12 ?_
    refine r_icmp_ge dX9_roomsLetting_15 (tgt := 75) rfl ?_ ?_
    · refine r_iload dX9_roomsLetting_75 rfl ?_
      exact r_ireturn rfl dX9_roomsLetting_77
    · refine r_aload_n dX9_roomsLetting_18 rfl ?_
      refine r_get v1 2 flX9_37 (okO_mom h1) (v := .ref (fpt v1 2)) (slA_r (okO_mom h1) rfl rfl) dX9_roomsLetting_19 ?_
      refine r_iload dX9_roomsLetting_22 rfl ?_
      refine r_iald (fpt v1 2) (okA_mom h1 2 rfl) dX9_roomsLetting_24 ?_
      refine r_istore dX9_roomsLetting_25 (Nat.le_of_ble_eq_true rfl) (ls2 := [some (.ref 10), some (.ref v1), some (.int v2), some (.int v3), some (.int v4), some (.int v5), some (.int v6), some (.int (gA u (fpt v1 2) v6))]) rfl ?_
      refine r_iload dX9_roomsLetting_27 rfl ?_
      refine r_iconst dX9_roomsLetting_29 (v := -1) rfl ?_
      refine r_icmp_eq dX9_roomsLetting_30 (tgt := 69) rfl ?_ ?_
      · refine r_iinc dX9_roomsLetting_69 (Nat.le_of_ble_eq_true rfl) rfl (v := v6 + 1) rfl (ls2 := [some (.ref 10), some (.ref v1), some (.int v2), some (.int v3), some (.int v4), some (.int v5), some (.int (v6 + 1)), some (.int (gA u (fpt v1 2) v6))]) rfl ?_
        refine r_goto dX9_roomsLetting_72 (tgt := 6) rfl ?_
        refine r_mk [true, true, true, true, true, true, true, false] (ls2 := [some (.ref 10), some (.ref v1), some (.int v2), some (.int v3), some (.int v4), some (.int v5), some (.int (v6 + 1)), none]) rfl ?_
        exact ih v5 (v6 + 1) u
      · refine r_iload dX9_roomsLetting_33 rfl ?_
        refine r_iload dX9_roomsLetting_35 rfl ?_
        refine c_NI (As := [.int v5, .int (gA u (fpt v1 2) v6)]) knX9_43 (by decide) (okX11_has v5 (gA u (fpt v1 2) v6) u) rfl (Nat.le_of_ble_eq_true rfl) rfl dX9_roomsLetting_37 (fun r1 u1 => ?_)
        refine r_if_ne dX9_roomsLetting_40 (tgt := 69) rfl ?_ ?_
        · refine r_iinc dX9_roomsLetting_69 (Nat.le_of_ble_eq_true rfl) rfl (v := v6 + 1) rfl (ls2 := [some (.ref 10), some (.ref v1), some (.int v2), some (.int v3), some (.int v4), some (.int v5), some (.int (v6 + 1)), some (.int (gA u (fpt v1 2) v6))]) rfl ?_
          refine r_goto dX9_roomsLetting_72 (tgt := 6) rfl ?_
          refine r_mk [true, true, true, true, true, true, true, false] (ls2 := [some (.ref 10), some (.ref v1), some (.int v2), some (.int v3), some (.int v4), some (.int v5), some (.int (v6 + 1)), none]) rfl ?_
          exact ih v5 (v6 + 1) u1
        · refine r_aload_n dX9_roomsLetting_43 rfl ?_
          refine r_get 10 0 flX9_15 rfl (v := .ref 3) rfl dX9_roomsLetting_44 ?_
          refine r_aload_n dX9_roomsLetting_47 rfl ?_
          refine r_iload_n dX9_roomsLetting_48 rfl ?_
          refine r_iload dX9_roomsLetting_49 rfl ?_
          refine r_iload_n dX9_roomsLetting_51 rfl ?_
          refine r_iload dX9_roomsLetting_52 rfl ?_
          refine c_VI (As := [.ref v1, .int v2, .int v6, .int v3, .int v4]) kvX9_46 rfl (by decide) (okX8_lets v1 v2 v6 v3 v4 u1) rfl (Nat.le_of_ble_eq_true rfl) rfl dX9_roomsLetting_54 (fun r2 u2 => ?_)
          refine r_if_eq dX9_roomsLetting_57 (tgt := 69) rfl ?_ ?_
          · refine r_iinc dX9_roomsLetting_69 (Nat.le_of_ble_eq_true rfl) rfl (v := v6 + 1) rfl (ls2 := [some (.ref 10), some (.ref v1), some (.int v2), some (.int v3), some (.int v4), some (.int v5), some (.int (v6 + 1)), some (.int (gA u (fpt v1 2) v6))]) rfl ?_
            refine r_goto dX9_roomsLetting_72 (tgt := 6) rfl ?_
            refine r_mk [true, true, true, true, true, true, true, false] (ls2 := [some (.ref 10), some (.ref v1), some (.int v2), some (.int v3), some (.int v4), some (.int v5), some (.int (v6 + 1)), none]) rfl ?_
            exact ih v5 (v6 + 1) u2
          · refine r_iload dX9_roomsLetting_60 rfl ?_
            refine r_iconst dX9_roomsLetting_62 (v := 1) rfl ?_
            refine r_iload dX9_roomsLetting_63 rfl ?_
            refine r_ishl dX9_roomsLetting_65 ?_
            refine r_ior dX9_roomsLetting_66 ?_
            refine r_istore dX9_roomsLetting_67 (Nat.le_of_ble_eq_true rfl) (ls2 := [some (.ref 10), some (.ref v1), some (.int v2), some (.int v3), some (.int v4), some (.int (v5 ||| (1 <<< ((gA u (fpt v1 2) v6) &&& 31)))), some (.int v6), some (.int (gA u (fpt v1 2) v6))]) rfl ?_
            refine r_iinc dX9_roomsLetting_69 (Nat.le_of_ble_eq_true rfl) rfl (v := v6 + 1) rfl (ls2 := [some (.ref 10), some (.ref v1), some (.int v2), some (.int v3), some (.int v4), some (.int (v5 ||| (1 <<< ((gA u (fpt v1 2) v6) &&& 31)))), some (.int (v6 + 1)), some (.int (gA u (fpt v1 2) v6))]) rfl ?_
            refine r_goto dX9_roomsLetting_72 (tgt := 6) rfl ?_
            refine r_mk [true, true, true, true, true, true, true, false] (ls2 := [some (.ref 10), some (.ref v1), some (.int v2), some (.int v3), some (.int v4), some (.int (v5 ||| (1 <<< ((gA u (fpt v1 2) v6) &&& 31)))), some (.int (v6 + 1)), none]) rfl ?_
            exact ih (v5 ||| (1 <<< ((gA u (fpt v1 2) v6) &&& 31))) (v6 + 1) u2
def fX9_roomsLetting (v1 : Nat) (v2 : Int32) (v3 : Int32) (v4 : Int32) (u : US) : Option (Int32 × US) :=
  gd (isMom v1) (fX9_roomsLetting_6 v1 v2 v3 v4 FU 0 0 u)
set_option maxRecDepth 20000 in
theorem sX9_roomsLetting (v1 : Nat) (v2 : Int32) (v3 : Int32) (v4 : Int32) (u : US) : Sim tI mX9_roomsLetting 4 (fX9_roomsLetting v1 v2 v3 v4 u) 0 [some (.ref 10), some (.ref v1), some (.int v2), some (.int v3), some (.int v4), none, none, none] [] u := by
  unfold fX9_roomsLetting
  refine r_gd (fun h1 => ?_)
  refine r_iconst dX9_roomsLetting_0 (v := 0) rfl ?_
  refine r_istore dX9_roomsLetting_1 (Nat.le_of_ble_eq_true rfl) (ls2 := [some (.ref 10), some (.ref v1), some (.int v2), some (.int v3), some (.int v4), some (.int 0), none, none]) rfl ?_
  refine r_iconst dX9_roomsLetting_3 (v := 0) rfl ?_
  refine r_istore dX9_roomsLetting_4 (Nat.le_of_ble_eq_true rfl) (ls2 := [some (.ref 10), some (.ref v1), some (.int v2), some (.int v3), some (.int v4), some (.int 0), some (.int 0), none]) rfl ?_
  exact sX9_roomsLetting_6 v1 v2 v3 v4 h1 FU 0 0 u
theorem okX9_roomsLetting (v1 : Nat) (v2 : Int32) (v3 : Int32) (v4 : Int32) (u : US) : ∀ r, fX9_roomsLetting v1 v2 v3 v4 u = some r → MetC mX9_roomsLetting 4 [.ref 10, .ref v1, .int v2, .int v3, .int v4] u (tI r) :=
  met_of (by decide +kernel) (Nat.le_of_ble_eq_true rfl) rfl (sX9_roomsLetting v1 v2 v3 v4 u)
def fX9_unseen_17 (v1 : Nat) (v2 : Int32) (v3 : Int32) (v4 : Int32) : Nat → Int64 → Int32 → Int32 → US → Option (Int64 × US)
  | 0, _, _, _, _ => none
  | n + 1, v5, v7, v8, u => oB (fX8_fields u) fun r1 u1 => (if r1 ≤ v8 then some (v5, u1) else oB (fX9_isReached v7 v8 u1) fun r2 u2 => (if r2 = 0 then fX9_unseen_17 v1 v2 v3 v4 n (v5 ||| (1 <<< ((v8).toInt64 &&& 63))) v7 (v8 + 1) u2 else fX9_unseen_17 v1 v2 v3 v4 n v5 v7 (v8 + 1) u2))
set_option maxRecDepth 20000 in
theorem sX9_unseen_17 (v1 : Nat) (v2 : Int32) (v3 : Int32) (v4 : Int32) (h1 : isMom v1 = true) : ∀ (n : Nat) (v5 : Int64) (v7 : Int32) (v8 : Int32) (u : US), Sim tJ mX9_unseen 7 (fX9_unseen_17 v1 v2 v3 v4 n v5 v7 v8 u) 17 [some (.ref 10), some (.ref v1), some (.int v2), some (.int v3), some (.int v4), some (.long v5), none, some (.int v7), some (.int v8)] [] u := by
  intro n
  induction n with
  | zero =>
    intro v5 v7 v8 u
    rw [fX9_unseen_17.eq_1]
    exact r_none
  | succ n ih =>
    intro v5 v7 v8 u
    rw [fX9_unseen_17.eq_2]
    refine r_iload dX9_unseen_17 rfl ?_
    refine r_aload_n dX9_unseen_19 rfl ?_
    refine r_get 10 0 flX9_15 rfl (v := .ref 3) rfl dX9_unseen_20 ?_
    refine c_VI (As := []) kvX9_23 rfl (by decide) (okX8_fields u) rfl (Nat.le_of_ble_eq_true rfl) rfl dX9_unseen_23 (fun r1 u1 => ?_)
    refine r_icmp_ge dX9_unseen_26 (tgt := 55) rfl ?_ ?_
    · refine r_lload dX9_unseen_55 rfl ?_
      exact r_lreturn rfl dX9_unseen_57
    · refine r_aload_n dX9_unseen_29 rfl ?_
      refine r_iload dX9_unseen_30 rfl ?_
      refine r_iload dX9_unseen_32 rfl ?_
      refine c_VI (As := [.int v7, .int v8]) kvX9_29 rfl (by decide) (okX9_isReached v7 v8 u1) rfl (Nat.le_of_ble_eq_true rfl) rfl dX9_unseen_34 (fun r2 u2 => ?_)
      refine r_if_ne dX9_unseen_37 (tgt := 49) rfl ?_ ?_
      · refine r_iinc dX9_unseen_49 (Nat.le_of_ble_eq_true rfl) rfl (v := v8 + 1) rfl (ls2 := [some (.ref 10), some (.ref v1), some (.int v2), some (.int v3), some (.int v4), some (.long v5), none, some (.int v7), some (.int (v8 + 1))]) rfl ?_
        refine r_goto dX9_unseen_52 (tgt := 17) rfl ?_
        exact ih v5 v7 (v8 + 1) u2
      · refine r_lload dX9_unseen_40 rfl ?_
        refine r_lconst dX9_unseen_42 (v := 1) rfl ?_
        refine r_iload dX9_unseen_43 rfl ?_
        refine r_lshl dX9_unseen_45 ?_
        refine r_lor dX9_unseen_46 ?_
        refine r_lstore dX9_unseen_47 (Nat.le_of_ble_eq_true rfl) (ls2 := [some (.ref 10), some (.ref v1), some (.int v2), some (.int v3), some (.int v4), some (.long (v5 ||| (1 <<< ((v8).toInt64 &&& 63)))), none, some (.int v7), some (.int v8)]) rfl ?_
        refine r_iinc dX9_unseen_49 (Nat.le_of_ble_eq_true rfl) rfl (v := v8 + 1) rfl (ls2 := [some (.ref 10), some (.ref v1), some (.int v2), some (.int v3), some (.int v4), some (.long (v5 ||| (1 <<< ((v8).toInt64 &&& 63)))), none, some (.int v7), some (.int (v8 + 1))]) rfl ?_
        refine r_goto dX9_unseen_52 (tgt := 17) rfl ?_
        exact ih (v5 ||| (1 <<< ((v8).toInt64 &&& 63))) v7 (v8 + 1) u2
def fX9_unseen (v1 : Nat) (v2 : Int32) (v3 : Int32) (v4 : Int32) (u : US) : Option (Int64 × US) :=
  gd (isMom v1) (oB (fX9_roomsLetting v1 v2 v3 v4 u) fun r1 u1 => fX9_unseen_17 v1 v2 v3 v4 FU 0 r1 0 u1)
set_option maxRecDepth 20000 in
theorem sX9_unseen (v1 : Nat) (v2 : Int32) (v3 : Int32) (v4 : Int32) (u : US) : Sim tJ mX9_unseen 7 (fX9_unseen v1 v2 v3 v4 u) 0 [some (.ref 10), some (.ref v1), some (.int v2), some (.int v3), some (.int v4), none, none, none, none] [] u := by
  unfold fX9_unseen
  refine r_gd (fun h1 => ?_)
  refine r_lconst dX9_unseen_0 (v := 0) rfl ?_
  refine r_lstore dX9_unseen_1 (Nat.le_of_ble_eq_true rfl) (ls2 := [some (.ref 10), some (.ref v1), some (.int v2), some (.int v3), some (.int v4), some (.long 0), none, none, none]) rfl ?_
  refine r_aload_n dX9_unseen_3 rfl ?_
  refine r_aload_n dX9_unseen_4 rfl ?_
  refine r_iload_n dX9_unseen_5 rfl ?_
  refine r_iload_n dX9_unseen_6 rfl ?_
  refine r_iload dX9_unseen_7 rfl ?_
  refine c_VI (As := [.ref v1, .int v2, .int v3, .int v4]) kvX9_19 rfl (by decide) (okX9_roomsLetting v1 v2 v3 v4 u) rfl (Nat.le_of_ble_eq_true rfl) rfl dX9_unseen_9 (fun r1 u1 => ?_)
  refine r_istore dX9_unseen_12 (Nat.le_of_ble_eq_true rfl) (ls2 := [some (.ref 10), some (.ref v1), some (.int v2), some (.int v3), some (.int v4), some (.long 0), none, some (.int r1), none]) rfl ?_
  refine r_iconst dX9_unseen_14 (v := 0) rfl ?_
  refine r_istore dX9_unseen_15 (Nat.le_of_ble_eq_true rfl) (ls2 := [some (.ref 10), some (.ref v1), some (.int v2), some (.int v3), some (.int v4), some (.long 0), none, some (.int r1), some (.int 0)]) rfl ?_
  exact sX9_unseen_17 v1 v2 v3 v4 h1 FU 0 r1 0 u1
theorem okX9_unseen (v1 : Nat) (v2 : Int32) (v3 : Int32) (v4 : Int32) (u : US) : ∀ r, fX9_unseen v1 v2 v3 v4 u = some r → MetC mX9_unseen 7 [.ref 10, .ref v1, .int v2, .int v3, .int v4] u (tJ r) :=
  met_of (by decide +kernel) (Nat.le_of_ble_eq_true rfl) rfl (sX9_unseen v1 v2 v3 v4 u)
def fX11_dark (v1 : Int32) (v2 : Int32) (u : US) : Option (Int64 × US) :=
  oB (fX11_isSort v1 v2 u) fun r1 u1 => (if r1 = 0 then some ((-1), u1) else oB (fX9_unseen 4 (gI u1 4 4) v1 v2 u1) fun r2 u2 => oB (fJ13_bitCount_95d88 r2 u2) fun r3 u3 => oV (fX2_tellOne ((r3 : Int32).toInt64) u3) fun u4 => some (r2, u4))
set_option maxRecDepth 20000 in
theorem sX11_dark (v1 : Int32) (v2 : Int32) (u : US) : Sim tJ mX11_dark 8 (fX11_dark v1 v2 u) 0 [some (.ref 0), some (.int v1), some (.int v2), none, none] [] u := by
  unfold fX11_dark
  refine r_iload_n dX11_dark_0 rfl ?_
  refine r_iload_n dX11_dark_1 rfl ?_
  refine c_SI (As := [.int v1, .int v2]) ksX11_367 (by decide) (okX11_isSort v1 v2 u) rfl (Nat.le_of_ble_eq_true rfl) rfl dX11_dark_2 (fun r1 u1 => ?_)
  refine r_if_ne dX11_dark_5 (tgt := 12) rfl ?_ ?_
  · refine r_aload_n dX11_dark_12 rfl ?_
    refine r_get 0 9 flX11_71 rfl (v := .ref 10) rfl dX11_dark_13 ?_
    refine r_aload_n dX11_dark_16 rfl ?_
    refine r_get 0 3 flX11_35 rfl (v := .ref 4) rfl dX11_dark_17 ?_
    refine r_aload_n dX11_dark_20 rfl ?_
    refine r_get 0 3 flX11_35 rfl (v := .ref 4) rfl dX11_dark_21 ?_
    refine r_get 4 4 flX11_280 rfl (v := .int (gI u1 4 4)) rfl dX11_dark_24 ?_
    refine r_iload_n dX11_dark_27 rfl ?_
    refine r_iload_n dX11_dark_28 rfl ?_
    refine c_VJ (As := [.ref 4, .int (gI u1 4 4), .int v1, .int v2]) kvX11_370 rfl (by decide) (okX9_unseen 4 (gI u1 4 4) v1 v2 u1) rfl (Nat.le_of_ble_eq_true rfl) rfl dX11_dark_29 (fun r2 u2 => ?_)
    refine r_lstore_n dX11_dark_32 (Nat.le_of_ble_eq_true rfl) (ls2 := [some (.ref 0), some (.int v1), some (.int v2), some (.long r2), none]) rfl ?_
    refine r_aload_n dX11_dark_33 rfl ?_
    refine r_get 0 7 flX11_55 rfl (v := .ref 8) rfl dX11_dark_34 ?_
    refine r_lload_n dX11_dark_37 rfl ?_
    refine c_SI (As := [.long r2]) ksX11_384 (by decide) (okJ13_bitCount_95d88 r2 u2) rfl (Nat.le_of_ble_eq_true rfl) rfl dX11_dark_38 (fun r3 u3 => ?_)
    refine r_i2l dX11_dark_41 ?_
    refine c_VV (As := [.long ((r3 : Int32).toInt64)]) kvX11_330 rfl (by decide) (okX2_tellOne ((r3 : Int32).toInt64) u3) rfl (Nat.le_of_ble_eq_true rfl) rfl dX11_dark_42 (fun u4 => ?_)
    refine r_lload_n dX11_dark_45 rfl ?_
    exact r_lreturn rfl dX11_dark_46
  · refine r_ldc2 dX11_dark_8 kJX11_382 ?_
    exact r_lreturn rfl dX11_dark_11
theorem okX11_dark (v1 : Int32) (v2 : Int32) (u : US) : ∀ r, fX11_dark v1 v2 u = some r → MetC mX11_dark 8 [.ref 0, .int v1, .int v2] u (tJ r) :=
  met_of (by decide +kernel) (Nat.le_of_ble_eq_true rfl) rfl (sX11_dark v1 v2 u)
def fX11_hangPane (v1 : Int32) (v2 : Int32) (u : US) : Option (Int32 × US) :=
  oB (fX8_isPane v1 u) fun r1 u1 => (if r1 = 0 then some ((-1), u1) else oB (fX8_isRoom v2 u1) fun r2 u2 => (if r2 = 0 then some ((-1), u2) else gd (inb v1 8) ((if (gA u2 24 v1) = v2 then some ((-2), u2) else gd (inb v1 8) (nx (sA u2 24 v1 v2) fun u3 => oB (fX8_panesIn 4 v2 u3) fun r4 u4 => oB (fJ6_bitCount_0f7a4 r4 u4) fun r5 u5 => some (r5, u5))))))
set_option maxRecDepth 20000 in
theorem sX11_hangPane (v1 : Int32) (v2 : Int32) (u : US) : Sim tI mX11_hangPane 1 (fX11_hangPane v1 v2 u) 0 [some (.ref 0), some (.int v1), some (.int v2)] [] u := by
  unfold fX11_hangPane
  refine r_aload_n dX11_hangPane_0 rfl ?_
  refine r_get 0 2 flX11_28 rfl (v := .ref 3) rfl dX11_hangPane_1 ?_
  refine r_iload_n dX11_hangPane_4 rfl ?_
  refine c_VI (As := [.int v1]) kvX11_187 rfl (by decide) (okX8_isPane v1 u) rfl (Nat.le_of_ble_eq_true rfl) rfl dX11_hangPane_5 (fun r1 u1 => ?_)
  refine r_if_eq dX11_hangPane_8 (tgt := 22) rfl ?_ ?_
  · refine r_iconst dX11_hangPane_22 (v := -1) rfl ?_
    exact r_ireturn rfl dX11_hangPane_23
  · refine r_aload_n dX11_hangPane_11 rfl ?_
    refine r_get 0 2 flX11_28 rfl (v := .ref 3) rfl dX11_hangPane_12 ?_
    refine r_iload_n dX11_hangPane_15 rfl ?_
    refine c_VI (As := [.int v2]) kvX11_209 rfl (by decide) (okX8_isRoom v2 u1) rfl (Nat.le_of_ble_eq_true rfl) rfl dX11_hangPane_16 (fun r2 u2 => ?_)
    refine r_if_ne dX11_hangPane_19 (tgt := 24) rfl ?_ ?_
    · refine r_aload_n dX11_hangPane_24 rfl ?_
      refine r_get 0 3 flX11_35 rfl (v := .ref 4) rfl dX11_hangPane_25 ?_
      refine r_get 4 2 flX11_196 rfl (v := .ref 24) rfl dX11_hangPane_28 ?_
      refine r_iload_n dX11_hangPane_31 rfl ?_
      refine r_iald 24 rfl dX11_hangPane_32 ?_
      refine r_iload_n dX11_hangPane_33 rfl ?_
      refine r_icmp_ne dX11_hangPane_34 (tgt := 40) rfl ?_ ?_
      · refine r_aload_n dX11_hangPane_40 rfl ?_
        refine r_get 0 3 flX11_35 rfl (v := .ref 4) rfl dX11_hangPane_41 ?_
        refine r_get 4 2 flX11_196 rfl (v := .ref 24) rfl dX11_hangPane_44 ?_
        refine r_iload_n dX11_hangPane_47 rfl ?_
        refine r_iload_n dX11_hangPane_48 rfl ?_
        refine r_iast 24 rfl dX11_hangPane_49 (r_nx (fun u3 => ?_))
        refine r_aload_n dX11_hangPane_50 rfl ?_
        refine r_get 0 2 flX11_28 rfl (v := .ref 3) rfl dX11_hangPane_51 ?_
        refine r_aload_n dX11_hangPane_54 rfl ?_
        refine r_get 0 3 flX11_35 rfl (v := .ref 4) rfl dX11_hangPane_55 ?_
        refine r_iload_n dX11_hangPane_58 rfl ?_
        refine c_VI (As := [.ref 4, .int v2]) kvX11_218 rfl (by decide) (okX8_panesIn 4 v2 u3) rfl (Nat.le_of_ble_eq_true rfl) rfl dX11_hangPane_59 (fun r4 u4 => ?_)
        refine c_SI (As := [.int r4]) ksX11_254 (by decide) (okJ6_bitCount_0f7a4 r4 u4) rfl (Nat.le_of_ble_eq_true rfl) rfl dX11_hangPane_62 (fun r5 u5 => ?_)
        exact r_ireturn rfl dX11_hangPane_65
      · refine r_bipush dX11_hangPane_37 (v := -2) rfl ?_
        exact r_ireturn rfl dX11_hangPane_39
    · refine r_iconst dX11_hangPane_22 (v := -1) rfl ?_
      exact r_ireturn rfl dX11_hangPane_23
theorem okX11_hangPane (v1 : Int32) (v2 : Int32) (u : US) : ∀ r, fX11_hangPane v1 v2 u = some r → MetC mX11_hangPane 1 [.ref 0, .int v1, .int v2] u (tI r) :=
  met_of (by decide +kernel) (Nat.le_of_ble_eq_true rfl) rfl (sX11_hangPane v1 v2 u)
def fX11_passHours_2 (v1 : Int32) : Nat → Int32 → US → Option (Int32 × US)
  | 0, _, _ => none
  | n + 1, v2, u => (if v1 ≤ v2 then some (gI u 4 4, u) else oV (fX8_walk 4 u) fun u1 => fX11_passHours_2 v1 n (v2 + 1) u1)
set_option maxRecDepth 20000 in
theorem sX11_passHours_2 (v1 : Int32) : ∀ (n : Nat) (v2 : Int32) (u : US), Sim tI mX11_passHours 3 (fX11_passHours_2 v1 n v2 u) 2 [some (.ref 0), some (.int v1), some (.int v2)] [] u := by
  intro n
  induction n with
  | zero =>
    intro v2 u
    rw [fX11_passHours_2.eq_1]
    exact r_none
  | succ n ih =>
    intro v2 u
    rw [fX11_passHours_2.eq_2]
    refine r_iload_n dX11_passHours_2 rfl ?_
    refine r_iload_n dX11_passHours_3 rfl ?_
    refine r_icmp_ge dX11_passHours_4 (tgt := 24) rfl ?_ ?_
    · refine r_aload_n dX11_passHours_24 rfl ?_
      refine r_get 0 3 flX11_35 rfl (v := .ref 4) rfl dX11_passHours_25 ?_
      refine r_get 4 4 flX11_280 rfl (v := .int (gI u 4 4)) rfl dX11_passHours_28 ?_
      exact r_ireturn rfl dX11_passHours_31
    · refine r_aload_n dX11_passHours_7 rfl ?_
      refine r_get 0 2 flX11_28 rfl (v := .ref 3) rfl dX11_passHours_8 ?_
      refine r_aload_n dX11_passHours_11 rfl ?_
      refine r_get 0 3 flX11_35 rfl (v := .ref 4) rfl dX11_passHours_12 ?_
      refine c_VV (As := [.ref 4]) kvX11_273 rfl (by decide) (okX8_walk 4 u) rfl (Nat.le_of_ble_eq_true rfl) rfl dX11_passHours_15 (fun u1 => ?_)
      refine r_iinc dX11_passHours_18 (Nat.le_of_ble_eq_true rfl) rfl (v := v2 + 1) rfl (ls2 := [some (.ref 0), some (.int v1), some (.int (v2 + 1))]) rfl ?_
      refine r_goto dX11_passHours_21 (tgt := 2) rfl ?_
      exact ih (v2 + 1) u1
def fX11_passHours (v1 : Int32) (u : US) : Option (Int32 × US) :=
  fX11_passHours_2 v1 FU 0 u
set_option maxRecDepth 20000 in
theorem sX11_passHours (v1 : Int32) (u : US) : Sim tI mX11_passHours 3 (fX11_passHours v1 u) 0 [some (.ref 0), some (.int v1), none] [] u := by
  unfold fX11_passHours
  refine r_iconst dX11_passHours_0 (v := 0) rfl ?_
  refine r_istore_n dX11_passHours_1 (Nat.le_of_ble_eq_true rfl) (ls2 := [some (.ref 0), some (.int v1), some (.int 0)]) rfl ?_
  exact sX11_passHours_2 v1 FU 0 u
theorem okX11_passHours (v1 : Int32) (u : US) : ∀ r, fX11_passHours v1 u = some r → MetC mX11_passHours 3 [.ref 0, .int v1] u (tI r) :=
  met_of (by decide +kernel) (Nat.le_of_ble_eq_true rfl) rfl (sX11_passHours v1 u)
def fX11_takeDown (v1 : Int32) (u : US) : Option (Int32 × US) :=
  oB (fX8_isPane v1 u) fun r1 u1 => (if r1 = 0 then some ((-1), u1) else gd (inb v1 8) ((if (gA u1 24 v1) = (-1) then some ((-2), u1) else gd (inb v1 8) (nx (sA u1 24 v1 (-1)) fun u2 => some (gA u1 24 v1, u2)))))
set_option maxRecDepth 20000 in
theorem sX11_takeDown (v1 : Int32) (u : US) : Sim tI mX11_takeDown 1 (fX11_takeDown v1 u) 0 [some (.ref 0), some (.int v1), none] [] u := by
  unfold fX11_takeDown
  refine r_aload_n dX11_takeDown_0 rfl ?_
  refine r_get 0 2 flX11_28 rfl (v := .ref 3) rfl dX11_takeDown_1 ?_
  refine r_iload_n dX11_takeDown_4 rfl ?_
  refine c_VI (As := [.int v1]) kvX11_187 rfl (by decide) (okX8_isPane v1 u) rfl (Nat.le_of_ble_eq_true rfl) rfl dX11_takeDown_5 (fun r1 u1 => ?_)
  refine r_if_ne dX11_takeDown_8 (tgt := 13) rfl ?_ ?_
  · refine r_aload_n dX11_takeDown_13 rfl ?_
    refine r_get 0 3 flX11_35 rfl (v := .ref 4) rfl dX11_takeDown_14 ?_
    refine r_get 4 2 flX11_196 rfl (v := .ref 24) rfl dX11_takeDown_17 ?_
    refine r_iload_n dX11_takeDown_20 rfl ?_
    refine r_iald 24 rfl dX11_takeDown_21 ?_
    refine r_istore_n dX11_takeDown_22 (Nat.le_of_ble_eq_true rfl) (ls2 := [some (.ref 0), some (.int v1), some (.int (gA u1 24 v1))]) rfl ?_
    refine r_iload_n dX11_takeDown_23 rfl ?_
    refine r_iconst dX11_takeDown_24 (v := -1) rfl ?_
    refine r_icmp_ne dX11_takeDown_25 (tgt := 31) rfl ?_ ?_
    · refine r_aload_n dX11_takeDown_31 rfl ?_
      refine r_get 0 3 flX11_35 rfl (v := .ref 4) rfl dX11_takeDown_32 ?_
      refine r_get 4 2 flX11_196 rfl (v := .ref 24) rfl dX11_takeDown_35 ?_
      refine r_iload_n dX11_takeDown_38 rfl ?_
      refine r_iconst dX11_takeDown_39 (v := -1) rfl ?_
      refine r_iast 24 rfl dX11_takeDown_40 (r_nx (fun u2 => ?_))
      refine r_iload_n dX11_takeDown_41 rfl ?_
      exact r_ireturn rfl dX11_takeDown_42
    · refine r_bipush dX11_takeDown_28 (v := -2) rfl ?_
      exact r_ireturn rfl dX11_takeDown_30
  · refine r_iconst dX11_takeDown_11 (v := -1) rfl ?_
    exact r_ireturn rfl dX11_takeDown_12
theorem okX11_takeDown (v1 : Int32) (u : US) : ∀ r, fX11_takeDown v1 u = some r → MetC mX11_takeDown 1 [.ref 0, .int v1] u (tI r) :=
  met_of (by decide +kernel) (Nat.le_of_ble_eq_true rfl) rfl (sX11_takeDown v1 u)
def fX11_doAct (u : US) : Option (Int32 × US) :=
  oB (fX5_passes 104 u) fun r1 u1 => (if r1 = 0 then oB (fX5_passes 112 u1) fun r2 u2 => (if r2 = 0 then oB (fX5_passes 111 u2) fun r3 u3 => (if r3 = 0 then oB (fX5_passes 98 u3) fun r4 u4 => (if r4 = 0 then oB (fX5_passes 99 u4) fun r5 u5 => (if r5 = 0 then some ((-1), u5) else oB (fX11_carryAsTold u5) fun r6 u6 => some (r6, u6)) else oB (fX5_digit 10 u4) fun r7 u7 => oB (fX11_breakPane r7 u7) fun r8 u8 => some (r8, u8)) else oB (fX5_digit 10 u3) fun r9 u9 => oB (fX11_takeDown r9 u9) fun r10 u10 => some (r10, u10)) else oB (fX5_digit 10 u2) fun r11 u11 => oB (fX5_digit 10 u11) fun r12 u12 => oB (fX11_hangPane r11 r12 u12) fun r13 u13 => some (r13, u13)) else oB (fX5_digit 10 u1) fun r14 u14 => oB (fX11_passHours r14 u14) fun r15 u15 => some (r15, u15))
set_option maxRecDepth 20000 in
theorem sX11_doAct (u : US) : Sim tI mX11_doAct 4 (fX11_doAct u) 0 [some (.ref 0)] [] u := by
  unfold fX11_doAct
  refine r_aload_n dX11_doAct_0 rfl ?_
  refine r_get 0 1 flX11_21 rfl (v := .ref 2) rfl dX11_doAct_1 ?_
  refine r_bipush dX11_doAct_4 (v := 104) rfl ?_
  refine c_VI (As := [.int 104]) kvX11_302 rfl (by decide) (okX5_passes 104 u) rfl (Nat.le_of_ble_eq_true rfl) rfl dX11_doAct_6 (fun r1 u1 => ?_)
  refine r_if_eq dX11_doAct_9 (tgt := 26) rfl ?_ ?_
  · refine r_aload_n dX11_doAct_26 rfl ?_
    refine r_get 0 1 flX11_21 rfl (v := .ref 2) rfl dX11_doAct_27 ?_
    refine r_bipush dX11_doAct_30 (v := 112) rfl ?_
    refine c_VI (As := [.int 112]) kvX11_302 rfl (by decide) (okX5_passes 112 u1) rfl (Nat.le_of_ble_eq_true rfl) rfl dX11_doAct_32 (fun r2 u2 => ?_)
    refine r_if_eq dX11_doAct_35 (tgt := 61) rfl ?_ ?_
    · refine r_aload_n dX11_doAct_61 rfl ?_
      refine r_get 0 1 flX11_21 rfl (v := .ref 2) rfl dX11_doAct_62 ?_
      refine r_bipush dX11_doAct_65 (v := 111) rfl ?_
      refine c_VI (As := [.int 111]) kvX11_302 rfl (by decide) (okX5_passes 111 u2) rfl (Nat.le_of_ble_eq_true rfl) rfl dX11_doAct_67 (fun r3 u3 => ?_)
      refine r_if_eq dX11_doAct_70 (tgt := 87) rfl ?_ ?_
      · refine r_aload_n dX11_doAct_87 rfl ?_
        refine r_get 0 1 flX11_21 rfl (v := .ref 2) rfl dX11_doAct_88 ?_
        refine r_bipush dX11_doAct_91 (v := 98) rfl ?_
        refine c_VI (As := [.int 98]) kvX11_302 rfl (by decide) (okX5_passes 98 u3) rfl (Nat.le_of_ble_eq_true rfl) rfl dX11_doAct_93 (fun r4 u4 => ?_)
        refine r_if_eq dX11_doAct_96 (tgt := 113) rfl ?_ ?_
        · refine r_aload_n dX11_doAct_113 rfl ?_
          refine r_get 0 1 flX11_21 rfl (v := .ref 2) rfl dX11_doAct_114 ?_
          refine r_bipush dX11_doAct_117 (v := 99) rfl ?_
          refine c_VI (As := [.int 99]) kvX11_302 rfl (by decide) (okX5_passes 99 u4) rfl (Nat.le_of_ble_eq_true rfl) rfl dX11_doAct_119 (fun r5 u5 => ?_)
          refine r_if_eq dX11_doAct_122 (tgt := 132) rfl ?_ ?_
          · refine r_iconst dX11_doAct_132 (v := -1) rfl ?_
            exact r_ireturn rfl dX11_doAct_133
          · refine r_aload_n dX11_doAct_125 rfl ?_
            refine c_VI (As := []) kvX11_311 rfl (by decide) (okX11_carryAsTold u5) rfl (Nat.le_of_ble_eq_true rfl) rfl dX11_doAct_126 (fun r6 u6 => ?_)
            refine r_goto dX11_doAct_129 (tgt := 133) rfl ?_
            exact r_ireturn rfl dX11_doAct_133
        · refine r_aload_n dX11_doAct_99 rfl ?_
          refine r_aload_n dX11_doAct_100 rfl ?_
          refine r_get 0 1 flX11_21 rfl (v := .ref 2) rfl dX11_doAct_101 ?_
          refine r_bipush dX11_doAct_104 (v := 10) rfl ?_
          refine c_VI (As := [.int 10]) kvX11_305 rfl (by decide) (okX5_digit 10 u4) rfl (Nat.le_of_ble_eq_true rfl) rfl dX11_doAct_106 (fun r7 u7 => ?_)
          refine c_VI (As := [.int r7]) kvX11_244 rfl (by decide) (okX11_breakPane r7 u7) rfl (Nat.le_of_ble_eq_true rfl) rfl dX11_doAct_109 (fun r8 u8 => ?_)
          exact r_ireturn rfl dX11_doAct_112
      · refine r_aload_n dX11_doAct_73 rfl ?_
        refine r_aload_n dX11_doAct_74 rfl ?_
        refine r_get 0 1 flX11_21 rfl (v := .ref 2) rfl dX11_doAct_75 ?_
        refine r_bipush dX11_doAct_78 (v := 10) rfl ?_
        refine c_VI (As := [.int 10]) kvX11_305 rfl (by decide) (okX5_digit 10 u3) rfl (Nat.le_of_ble_eq_true rfl) rfl dX11_doAct_80 (fun r9 u9 => ?_)
        refine c_VI (As := [.int r9]) kvX11_241 rfl (by decide) (okX11_takeDown r9 u9) rfl (Nat.le_of_ble_eq_true rfl) rfl dX11_doAct_83 (fun r10 u10 => ?_)
        exact r_ireturn rfl dX11_doAct_86
    · refine r_aload_n dX11_doAct_38 rfl ?_
      refine r_aload_n dX11_doAct_39 rfl ?_
      refine r_get 0 1 flX11_21 rfl (v := .ref 2) rfl dX11_doAct_40 ?_
      refine r_bipush dX11_doAct_43 (v := 10) rfl ?_
      refine c_VI (As := [.int 10]) kvX11_305 rfl (by decide) (okX5_digit 10 u2) rfl (Nat.le_of_ble_eq_true rfl) rfl dX11_doAct_45 (fun r11 u11 => ?_)
      refine r_aload_n dX11_doAct_48 rfl ?_
      refine r_get 0 1 flX11_21 rfl (v := .ref 2) rfl dX11_doAct_49 ?_
      refine r_bipush dX11_doAct_52 (v := 10) rfl ?_
      refine c_VI (As := [.int 10]) kvX11_305 rfl (by decide) (okX5_digit 10 u11) rfl (Nat.le_of_ble_eq_true rfl) rfl dX11_doAct_54 (fun r12 u12 => ?_)
      refine c_VI (As := [.int r11, .int r12]) kvX11_235 rfl (by decide) (okX11_hangPane r11 r12 u12) rfl (Nat.le_of_ble_eq_true rfl) rfl dX11_doAct_57 (fun r13 u13 => ?_)
      exact r_ireturn rfl dX11_doAct_60
  · refine r_aload_n dX11_doAct_12 rfl ?_
    refine r_aload_n dX11_doAct_13 rfl ?_
    refine r_get 0 1 flX11_21 rfl (v := .ref 2) rfl dX11_doAct_14 ?_
    refine r_bipush dX11_doAct_17 (v := 10) rfl ?_
    refine c_VI (As := [.int 10]) kvX11_305 rfl (by decide) (okX5_digit 10 u1) rfl (Nat.le_of_ble_eq_true rfl) rfl dX11_doAct_19 (fun r14 u14 => ?_)
    refine c_VI (As := [.int r14]) kvX11_308 rfl (by decide) (okX11_passHours r14 u14) rfl (Nat.le_of_ble_eq_true rfl) rfl dX11_doAct_22 (fun r15 u15 => ?_)
    exact r_ireturn rfl dX11_doAct_25
theorem okX11_doAct (u : US) : ∀ r, fX11_doAct u = some r → MetC mX11_doAct 4 [.ref 0] u (tI r) :=
  met_of (by decide +kernel) (Nat.le_of_ble_eq_true rfl) rfl (sX11_doAct u)
def fX11_liveDay_106 (v1 : Int32) (s1 : Int64) (u : US) : Option (Int32 × US) :=
  oV (fX2_tellTwo s1 ((gI u 4 4 : Int32).toInt64) u) fun u1 => some (v1, u1)
set_option maxRecDepth 20000 in
theorem sX11_liveDay_106 (v1 : Int32) (s1 : Int64) (u : US) : Sim tI mX11_liveDay 7 (fX11_liveDay_106 v1 s1 u) 106 [some (.ref 0), some (.int v1), none, none] [.long s1, .ref 8] u := by
  unfold fX11_liveDay_106
  refine r_aload_n dX11_liveDay_106 rfl ?_
  refine r_get 0 3 flX11_35 rfl (v := .ref 4) rfl dX11_liveDay_107 ?_
  refine r_get 4 4 flX11_280 rfl (v := .int (gI u 4 4)) rfl dX11_liveDay_110 ?_
  refine r_i2l dX11_liveDay_113 ?_
  refine c_VV (As := [.long s1, .long ((gI u 4 4 : Int32).toInt64)]) kvX11_298 rfl (by decide) (okX2_tellTwo s1 ((gI u 4 4 : Int32).toInt64) u) rfl (Nat.le_of_ble_eq_true rfl) rfl dX11_liveDay_114 (fun u1 => ?_)
  refine r_iload_n dX11_liveDay_117 rfl ?_
  exact r_ireturn rfl dX11_liveDay_118
def fX11_liveDay_93 (v1 : Int32) (v2 : Int32) (u : US) : Option (Int32 × US) :=
  (if v2 = 0 then fX11_liveDay_106 v1 0 u else fX11_liveDay_106 v1 1 u)
set_option maxRecDepth 20000 in
theorem sX11_liveDay_93 (v1 : Int32) (v2 : Int32) (u : US) : Sim tI mX11_liveDay 7 (fX11_liveDay_93 v1 v2 u) 93 [some (.ref 0), some (.int v1), some (.int v2), none] [] u := by
  unfold fX11_liveDay_93
  refine r_aload_n dX11_liveDay_93 rfl ?_
  refine r_get 0 7 flX11_55 rfl (v := .ref 8) rfl dX11_liveDay_94 ?_
  refine r_iload_n dX11_liveDay_97 rfl ?_
  refine r_if_eq dX11_liveDay_98 (tgt := 105) rfl ?_ ?_
  · refine r_lconst dX11_liveDay_105 (v := 0) rfl ?_
    refine r_mk [true, true, false, false] (ls2 := [some (.ref 0), some (.int v1), none, none]) rfl ?_
    exact sX11_liveDay_106 v1 0 u
  · refine r_lconst dX11_liveDay_101 (v := 1) rfl ?_
    refine r_goto dX11_liveDay_102 (tgt := 106) rfl ?_
    refine r_mk [true, true, false, false] (ls2 := [some (.ref 0), some (.int v1), none, none]) rfl ?_
    exact sX11_liveDay_106 v1 1 u
def fX11_liveDay_78 (v1 : Int32) (v2 : Int32) (u : US) : Option (Int32 × US) :=
  (if v1 ≤ 0 then fX11_liveDay_93 v1 v2 u else oV (fX4_push 5 u) fun u1 => fX11_liveDay_93 v1 v2 u1)
set_option maxRecDepth 20000 in
theorem sX11_liveDay_78 (v1 : Int32) (v2 : Int32) (u : US) : Sim tI mX11_liveDay 7 (fX11_liveDay_78 v1 v2 u) 78 [some (.ref 0), some (.int v1), some (.int v2), none] [] u := by
  unfold fX11_liveDay_78
  refine r_iload_n dX11_liveDay_78 rfl ?_
  refine r_if_le dX11_liveDay_79 (tgt := 93) rfl ?_ ?_
  · exact sX11_liveDay_93 v1 v2 u
  · refine r_aload_n dX11_liveDay_82 rfl ?_
    refine r_get 0 6 flX11_48 rfl (v := .ref 7) rfl dX11_liveDay_83 ?_
    refine r_aload_n dX11_liveDay_86 rfl ?_
    refine r_get 0 4 flX11_39 rfl (v := .ref 5) rfl dX11_liveDay_87 ?_
    refine c_VV (As := [.ref 5]) kvX11_251 rfl (by decide) (okX4_push 5 u) rfl (Nat.le_of_ble_eq_true rfl) rfl dX11_liveDay_90 (fun u1 => ?_)
    exact sX11_liveDay_93 v1 v2 u1
def fX11_liveDay_59 (k26 : Int32 → Int32 → Int32 → US → Option (Int32 × US)) (v1 : Int32) (v3 : Int32) (s0 : Int32) (u : US) : Option (Int32 × US) :=
  (if s0 = 0 then k26 (v1 + 1) s0 (v3 + 1) u else k26 (v1 + 0) s0 (v3 + 1) u)
set_option maxRecDepth 20000 in
theorem sX11_liveDay_59 (k26 : Int32 → Int32 → Int32 → US → Option (Int32 × US)) (hk26 : ∀ (v1 : Int32) (v2 : Int32) (v3 : Int32) (u : US), Sim tI mX11_liveDay 7 (k26 v1 v2 v3 u) 26 [some (.ref 0), some (.int v1), some (.int v2), some (.int v3)] [] u) (v1 : Int32) (v3 : Int32) (s0 : Int32) (u : US) : Sim tI mX11_liveDay 7 (fX11_liveDay_59 k26 v1 v3 s0 u) 59 [some (.ref 0), some (.int v1), none, some (.int v3)] [.int s0] u := by
  unfold fX11_liveDay_59
  refine r_istore_n dX11_liveDay_59 (Nat.le_of_ble_eq_true rfl) (ls2 := [some (.ref 0), some (.int v1), some (.int s0), some (.int v3)]) rfl ?_
  refine r_iload_n dX11_liveDay_60 rfl ?_
  refine r_iload_n dX11_liveDay_61 rfl ?_
  refine r_if_eq dX11_liveDay_62 (tgt := 69) rfl ?_ ?_
  · refine r_iconst dX11_liveDay_69 (v := 1) rfl ?_
    refine r_iadd dX11_liveDay_70 ?_
    refine r_istore_n dX11_liveDay_71 (Nat.le_of_ble_eq_true rfl) (ls2 := [some (.ref 0), some (.int (v1 + 1)), some (.int s0), some (.int v3)]) rfl ?_
    refine r_iinc dX11_liveDay_72 (Nat.le_of_ble_eq_true rfl) rfl (v := v3 + 1) rfl (ls2 := [some (.ref 0), some (.int (v1 + 1)), some (.int s0), some (.int (v3 + 1))]) rfl ?_
    refine r_goto dX11_liveDay_75 (tgt := 26) rfl ?_
    exact hk26 (v1 + 1) s0 (v3 + 1) u
  · refine r_iconst dX11_liveDay_65 (v := 0) rfl ?_
    refine r_goto dX11_liveDay_66 (tgt := 70) rfl ?_
    refine r_iadd dX11_liveDay_70 ?_
    refine r_istore_n dX11_liveDay_71 (Nat.le_of_ble_eq_true rfl) (ls2 := [some (.ref 0), some (.int (v1 + 0)), some (.int s0), some (.int v3)]) rfl ?_
    refine r_iinc dX11_liveDay_72 (Nat.le_of_ble_eq_true rfl) rfl (v := v3 + 1) rfl (ls2 := [some (.ref 0), some (.int (v1 + 0)), some (.int s0), some (.int (v3 + 1))]) rfl ?_
    refine r_goto dX11_liveDay_75 (tgt := 26) rfl ?_
    exact hk26 (v1 + 0) s0 (v3 + 1) u
def fX11_liveDay_26 : Nat → Int32 → Int32 → Int32 → US → Option (Int32 × US)
  | 0, _, _, _, _ => none
  | n + 1, v1, v2, v3, u => (if (60 : Int32) ≤ v3 then fX11_liveDay_78 v1 v2 u else (if v2 = 0 then oB (fX5_peek u) fun r1 u1 => (if r1 = (-1) then fX11_liveDay_78 v1 v2 u1 else oB (fX11_doAct u1) fun r2 u2 => (if 0 ≤ r2 then fX11_liveDay_59 (fX11_liveDay_26 n) v1 v3 0 u2 else fX11_liveDay_59 (fX11_liveDay_26 n) v1 v3 1 u2)) else fX11_liveDay_78 v1 v2 u))
set_option maxRecDepth 20000 in
theorem sX11_liveDay_26 : ∀ (n : Nat) (v1 : Int32) (v2 : Int32) (v3 : Int32) (u : US), Sim tI mX11_liveDay 7 (fX11_liveDay_26 n v1 v2 v3 u) 26 [some (.ref 0), some (.int v1), some (.int v2), some (.int v3)] [] u := by
  intro n
  induction n with
  | zero =>
    intro v1 v2 v3 u
    rw [fX11_liveDay_26.eq_1]
    exact r_none
  | succ n ih =>
    intro v1 v2 v3 u
    rw [fX11_liveDay_26.eq_2]
    refine r_iload_n dX11_liveDay_26 rfl ?_
    refine r_bipush dX11_liveDay_27 (v := 60) rfl ?_
    refine r_icmp_ge dX11_liveDay_29 (tgt := 78) rfl ?_ ?_
    · refine r_mk [true, true, true, false] (ls2 := [some (.ref 0), some (.int v1), some (.int v2), none]) rfl ?_
      exact sX11_liveDay_78 v1 v2 u
    · refine r_iload_n dX11_liveDay_32 rfl ?_
      refine r_if_ne dX11_liveDay_33 (tgt := 78) rfl ?_ ?_
      · refine r_mk [true, true, true, false] (ls2 := [some (.ref 0), some (.int v1), some (.int v2), none]) rfl ?_
        exact sX11_liveDay_78 v1 v2 u
      · refine r_aload_n dX11_liveDay_36 rfl ?_
        refine r_get 0 1 flX11_21 rfl (v := .ref 2) rfl dX11_liveDay_37 ?_
        refine c_VI (As := []) kvX11_289 rfl (by decide) (okX5_peek u) rfl (Nat.le_of_ble_eq_true rfl) rfl dX11_liveDay_40 (fun r1 u1 => ?_)
        refine r_iconst dX11_liveDay_43 (v := -1) rfl ?_
        refine r_icmp_eq dX11_liveDay_44 (tgt := 78) rfl ?_ ?_
        · refine r_mk [true, true, true, false] (ls2 := [some (.ref 0), some (.int v1), some (.int v2), none]) rfl ?_
          exact sX11_liveDay_78 v1 v2 u1
        · refine r_aload_n dX11_liveDay_47 rfl ?_
          refine c_VI (As := []) kvX11_295 rfl (by decide) (okX11_doAct u1) rfl (Nat.le_of_ble_eq_true rfl) rfl dX11_liveDay_48 (fun r2 u2 => ?_)
          refine r_if_ge dX11_liveDay_51 (tgt := 58) rfl ?_ ?_
          · refine r_iconst dX11_liveDay_58 (v := 0) rfl ?_
            refine r_mk [true, true, false, true] (ls2 := [some (.ref 0), some (.int v1), none, some (.int v3)]) rfl ?_
            exact sX11_liveDay_59 (fX11_liveDay_26 n) ih v1 v3 0 u2
          · refine r_iconst dX11_liveDay_54 (v := 1) rfl ?_
            refine r_goto dX11_liveDay_55 (tgt := 59) rfl ?_
            refine r_mk [true, true, false, true] (ls2 := [some (.ref 0), some (.int v1), none, some (.int v3)]) rfl ?_
            exact sX11_liveDay_59 (fX11_liveDay_26 n) ih v1 v3 1 u2
def fX11_liveDay (u : US) : Option (Int32 × US) :=
  oV (fX1_copy 5 4 u) fun u1 => oV (fX5_open 60 u1) fun u2 => fX11_liveDay_26 FU 0 0 0 u2
set_option maxRecDepth 20000 in
theorem sX11_liveDay (u : US) : Sim tI mX11_liveDay 7 (fX11_liveDay u) 0 [some (.ref 0), none, none, none] [] u := by
  unfold fX11_liveDay
  refine r_aload_n dX11_liveDay_0 rfl ?_
  refine r_get 0 4 flX11_39 rfl (v := .ref 5) rfl dX11_liveDay_1 ?_
  refine r_aload_n dX11_liveDay_4 rfl ?_
  refine r_get 0 3 flX11_35 rfl (v := .ref 4) rfl dX11_liveDay_5 ?_
  refine c_VV (As := [.ref 4]) kvX11_231 rfl (by decide) (okX1_copy 5 4 u) rfl (Nat.le_of_ble_eq_true rfl) rfl dX11_liveDay_8 (fun u1 => ?_)
  refine r_aload_n dX11_liveDay_11 rfl ?_
  refine r_get 0 1 flX11_21 rfl (v := .ref 2) rfl dX11_liveDay_12 ?_
  refine r_bipush dX11_liveDay_15 (v := 60) rfl ?_
  refine c_VV (As := [.int 60]) kvX11_104 rfl (by decide) (okX5_open 60 u1) rfl (Nat.le_of_ble_eq_true rfl) rfl dX11_liveDay_17 (fun u2 => ?_)
  refine r_iconst dX11_liveDay_20 (v := 0) rfl ?_
  refine r_istore_n dX11_liveDay_21 (Nat.le_of_ble_eq_true rfl) (ls2 := [some (.ref 0), some (.int 0), none, none]) rfl ?_
  refine r_iconst dX11_liveDay_22 (v := 0) rfl ?_
  refine r_istore_n dX11_liveDay_23 (Nat.le_of_ble_eq_true rfl) (ls2 := [some (.ref 0), some (.int 0), some (.int 0), none]) rfl ?_
  refine r_iconst dX11_liveDay_24 (v := 0) rfl ?_
  refine r_istore_n dX11_liveDay_25 (Nat.le_of_ble_eq_true rfl) (ls2 := [some (.ref 0), some (.int 0), some (.int 0), some (.int 0)]) rfl ?_
  exact sX11_liveDay_26 FU 0 0 0 u2
theorem okX11_liveDay (u : US) : ∀ r, fX11_liveDay u = some r → MetC mX11_liveDay 7 [.ref 0] u (tI r) :=
  met_of (by decide +kernel) (Nat.le_of_ble_eq_true rfl) rfl (sX11_liveDay u)
def fX5_passAct_89 : Nat → Int32 → Int32 → Int32 → US → Option (US)
  | 0, _, _, _, _ => none
  | n + 1, v1, v3, v4, u => (if v3 ≤ v4 then (if v1 = 99 then oB (fX5_heading u) fun r1 u1 => some u1 else some u) else oB (fX5_digit 10 u) fun r2 u2 => fX5_passAct_89 n v1 v3 (v4 + 1) u2)
set_option maxRecDepth 20000 in
theorem sX5_passAct_89 : ∀ (n : Nat) (v1 : Int32) (v3 : Int32) (v4 : Int32) (u : US), Sim tV mX5_passAct 3 (fX5_passAct_89 n v1 v3 v4 u) 89 [some (.ref 2), some (.int v1), none, some (.int v3), some (.int v4)] [] u := by
  intro n
  induction n with
  | zero =>
    intro v1 v3 v4 u
    rw [fX5_passAct_89.eq_1]
    exact r_none
  | succ n ih =>
    intro v1 v3 v4 u
    rw [fX5_passAct_89.eq_2]
    refine r_iload dX5_passAct_89 rfl ?_
    refine r_iload_n dX5_passAct_91 rfl ?_
    refine r_icmp_ge dX5_passAct_92 (tgt := 108) rfl ?_ ?_
    · refine r_iload_n dX5_passAct_108 rfl ?_
      refine r_bipush dX5_passAct_109 (v := 99) rfl ?_
      refine r_icmp_ne dX5_passAct_111 (tgt := 119) rfl ?_ ?_
      · exact r_return rfl dX5_passAct_119
      · refine r_aload_n dX5_passAct_114 rfl ?_
        refine c_VI (As := []) kvX5_57 rfl (by decide) (okX5_heading u) rfl (Nat.le_of_ble_eq_true rfl) rfl dX5_passAct_115 (fun r1 u1 => ?_)
        refine r_pop dX5_passAct_118 rfl ?_
        exact r_return rfl dX5_passAct_119
    · refine r_aload_n dX5_passAct_95 rfl ?_
      refine r_bipush dX5_passAct_96 (v := 10) rfl ?_
      refine c_VI (As := [.int 10]) kvX5_54 rfl (by decide) (okX5_digit 10 u) rfl (Nat.le_of_ble_eq_true rfl) rfl dX5_passAct_98 (fun r2 u2 => ?_)
      refine r_pop dX5_passAct_101 rfl ?_
      refine r_iinc dX5_passAct_102 (Nat.le_of_ble_eq_true rfl) rfl (v := v4 + 1) rfl (ls2 := [some (.ref 2), some (.int v1), none, some (.int v3), some (.int (v4 + 1))]) rfl ?_
      refine r_goto dX5_passAct_105 (tgt := 89) rfl ?_
      exact ih v1 v3 (v4 + 1) u2
def fX5_passAct_69 (v1 : Int32) (v3 : Int32) (s1 : Int32) (u : US) : Option (US) :=
  oB (fX5_demand s1 u) fun r1 u1 => (if r1 = 0 then some u1 else nx (sI u1 2 2 ((gI u1 2 2) + 1)) fun u2 => fX5_passAct_89 FU v1 v3 0 u2)
set_option maxRecDepth 20000 in
theorem sX5_passAct_69 (v1 : Int32) (v3 : Int32) (s1 : Int32) (u : US) : Sim tV mX5_passAct 3 (fX5_passAct_69 v1 v3 s1 u) 69 [some (.ref 2), some (.int v1), none, some (.int v3), none] [.int s1, .ref 2] u := by
  unfold fX5_passAct_69
  refine c_VI (As := [.int s1]) kvX5_38 rfl (by decide) (okX5_demand s1 u) rfl (Nat.le_of_ble_eq_true rfl) rfl dX5_passAct_69 (fun r1 u1 => ?_)
  refine r_if_ne dX5_passAct_72 (tgt := 76) rfl ?_ ?_
  · refine r_aload_n dX5_passAct_76 rfl ?_
    refine r_dup dX5_passAct_77 rfl ?_
    refine r_get 2 2 flX5_19 rfl (v := .int (gI u1 2 2)) rfl dX5_passAct_78 ?_
    refine r_iconst dX5_passAct_81 (v := 1) rfl ?_
    refine r_iadd dX5_passAct_82 ?_
    refine r_put 2 2 fpX5_19 rfl rfl dX5_passAct_83 (r_nx (fun u2 => ?_))
    refine r_iconst dX5_passAct_86 (v := 0) rfl ?_
    refine r_istore dX5_passAct_87 (Nat.le_of_ble_eq_true rfl) (ls2 := [some (.ref 2), some (.int v1), none, some (.int v3), some (.int 0)]) rfl ?_
    exact sX5_passAct_89 FU v1 v3 0 u2
  · exact r_return rfl dX5_passAct_75
def fX5_passAct_58 (v1 : Int32) (s0 : Int32) (u : US) : Option (US) :=
  (if s0 ≤ 0 then fX5_passAct_69 v1 s0 0 u else fX5_passAct_69 v1 s0 1 u)
set_option maxRecDepth 20000 in
theorem sX5_passAct_58 (v1 : Int32) (s0 : Int32) (u : US) : Sim tV mX5_passAct 3 (fX5_passAct_58 v1 s0 u) 58 [some (.ref 2), some (.int v1), none, none, none] [.int s0] u := by
  unfold fX5_passAct_58
  refine r_istore_n dX5_passAct_58 (Nat.le_of_ble_eq_true rfl) (ls2 := [some (.ref 2), some (.int v1), none, some (.int s0), none]) rfl ?_
  refine r_aload_n dX5_passAct_59 rfl ?_
  refine r_iload_n dX5_passAct_60 rfl ?_
  refine r_if_le dX5_passAct_61 (tgt := 68) rfl ?_ ?_
  · refine r_iconst dX5_passAct_68 (v := 0) rfl ?_
    exact sX5_passAct_69 v1 s0 0 u
  · refine r_iconst dX5_passAct_64 (v := 1) rfl ?_
    refine r_goto dX5_passAct_65 (tgt := 69) rfl ?_
    exact sX5_passAct_69 v1 s0 1 u
def fX5_passAct_28 (v1 : Int32) (s0 : Int32) (u : US) : Option (US) :=
  (if s0 = 0 then (if v1 = 112 then fX5_passAct_58 v1 2 u else (if v1 = 99 then fX5_passAct_58 v1 3 u else fX5_passAct_58 v1 0 u)) else fX5_passAct_58 v1 1 u)
set_option maxRecDepth 20000 in
theorem sX5_passAct_28 (v1 : Int32) (s0 : Int32) (u : US) : Sim tV mX5_passAct 3 (fX5_passAct_28 v1 s0 u) 28 [some (.ref 2), some (.int v1), none, none, none] [.int s0] u := by
  unfold fX5_passAct_28
  refine r_istore_n dX5_passAct_28 (Nat.le_of_ble_eq_true rfl) (ls2 := [some (.ref 2), some (.int v1), some (.int s0), none, none]) rfl ?_
  refine r_iload_n dX5_passAct_29 rfl ?_
  refine r_if_eq dX5_passAct_30 (tgt := 37) rfl ?_ ?_
  · refine r_iload_n dX5_passAct_37 rfl ?_
    refine r_bipush dX5_passAct_38 (v := 112) rfl ?_
    refine r_icmp_ne dX5_passAct_40 (tgt := 47) rfl ?_ ?_
    · refine r_iload_n dX5_passAct_47 rfl ?_
      refine r_bipush dX5_passAct_48 (v := 99) rfl ?_
      refine r_icmp_ne dX5_passAct_50 (tgt := 57) rfl ?_ ?_
      · refine r_iconst dX5_passAct_57 (v := 0) rfl ?_
        refine r_mk [true, true, false, false, false] (ls2 := [some (.ref 2), some (.int v1), none, none, none]) rfl ?_
        exact sX5_passAct_58 v1 0 u
      · refine r_iconst dX5_passAct_53 (v := 3) rfl ?_
        refine r_goto dX5_passAct_54 (tgt := 58) rfl ?_
        refine r_mk [true, true, false, false, false] (ls2 := [some (.ref 2), some (.int v1), none, none, none]) rfl ?_
        exact sX5_passAct_58 v1 3 u
    · refine r_iconst dX5_passAct_43 (v := 2) rfl ?_
      refine r_goto dX5_passAct_44 (tgt := 58) rfl ?_
      refine r_mk [true, true, false, false, false] (ls2 := [some (.ref 2), some (.int v1), none, none, none]) rfl ?_
      exact sX5_passAct_58 v1 2 u
  · refine r_iconst dX5_passAct_33 (v := 1) rfl ?_
    refine r_goto dX5_passAct_34 (tgt := 58) rfl ?_
    refine r_mk [true, true, false, false, false] (ls2 := [some (.ref 2), some (.int v1), none, none, none]) rfl ?_
    exact sX5_passAct_58 v1 1 u
def fX5_passAct_23 (v1 : Int32) (u : US) : Option (US) :=
  fX5_passAct_28 v1 1 u
set_option maxRecDepth 20000 in
theorem sX5_passAct_23 (v1 : Int32) (u : US) : Sim tV mX5_passAct 3 (fX5_passAct_23 v1 u) 23 [some (.ref 2), some (.int v1), none, none, none] [] u := by
  unfold fX5_passAct_23
  refine r_iconst dX5_passAct_23 (v := 1) rfl ?_
  refine r_goto dX5_passAct_24 (tgt := 28) rfl ?_
  exact sX5_passAct_28 v1 1 u
def fX5_passAct (u : US) : Option (US) :=
  oB (fX5_peek u) fun r1 u1 => (if r1 = 104 then fX5_passAct_23 r1 u1 else (if r1 = 111 then fX5_passAct_23 r1 u1 else (if r1 = 98 then fX5_passAct_23 r1 u1 else fX5_passAct_28 r1 0 u1)))
set_option maxRecDepth 20000 in
theorem sX5_passAct (u : US) : Sim tV mX5_passAct 3 (fX5_passAct u) 0 [some (.ref 2), none, none, none, none] [] u := by
  unfold fX5_passAct
  refine r_aload_n dX5_passAct_0 rfl ?_
  refine c_VI (As := []) kvX5_34 rfl (by decide) (okX5_peek u) rfl (Nat.le_of_ble_eq_true rfl) rfl dX5_passAct_1 (fun r1 u1 => ?_)
  refine r_istore_n dX5_passAct_4 (Nat.le_of_ble_eq_true rfl) (ls2 := [some (.ref 2), some (.int r1), none, none, none]) rfl ?_
  refine r_iload_n dX5_passAct_5 rfl ?_
  refine r_bipush dX5_passAct_6 (v := 104) rfl ?_
  refine r_icmp_eq dX5_passAct_8 (tgt := 23) rfl ?_ ?_
  · exact sX5_passAct_23 r1 u1
  · refine r_iload_n dX5_passAct_11 rfl ?_
    refine r_bipush dX5_passAct_12 (v := 111) rfl ?_
    refine r_icmp_eq dX5_passAct_14 (tgt := 23) rfl ?_ ?_
    · exact sX5_passAct_23 r1 u1
    · refine r_iload_n dX5_passAct_17 rfl ?_
      refine r_bipush dX5_passAct_18 (v := 98) rfl ?_
      refine r_icmp_ne dX5_passAct_20 (tgt := 27) rfl ?_ ?_
      · refine r_iconst dX5_passAct_27 (v := 0) rfl ?_
        exact sX5_passAct_28 r1 0 u1
      · exact sX5_passAct_23 r1 u1
theorem okX5_passAct (u : US) : ∀ r, fX5_passAct u = some r → MetC mX5_passAct 3 [.ref 2] u (tV r) :=
  met_of (by decide +kernel) (Nat.le_of_ble_eq_true rfl) rfl (sX5_passAct u)
def fX11_readDay_41 (u : US) : Option (Int32 × US) :=
  oB (fX5_answer 0 u) fun r1 u1 => some (r1, u1)
set_option maxRecDepth 20000 in
theorem sX11_readDay_41 (u : US) : Sim tI mX11_readDay 4 (fX11_readDay_41 u) 41 [some (.ref 0), none] [] u := by
  unfold fX11_readDay_41
  refine r_aload_n dX11_readDay_41 rfl ?_
  refine r_get 0 1 flX11_21 rfl (v := .ref 2) rfl dX11_readDay_42 ?_
  refine r_iconst dX11_readDay_45 (v := 0) rfl ?_
  refine c_VI (As := [.int 0]) kvX11_112 rfl (by decide) (okX5_answer 0 u) rfl (Nat.le_of_ble_eq_true rfl) rfl dX11_readDay_46 (fun r1 u1 => ?_)
  exact r_ireturn rfl dX11_readDay_49
def fX11_readDay_11 : Nat → Int32 → US → Option (Int32 × US)
  | 0, _, _ => none
  | n + 1, v1, u => (if (60 : Int32) ≤ v1 then fX11_readDay_41 u else oB (fX5_peek u) fun r1 u1 => (if r1 = (-1) then fX11_readDay_41 u1 else oV (fX5_passAct u1) fun u2 => fX11_readDay_11 n (v1 + 1) u2))
set_option maxRecDepth 20000 in
theorem sX11_readDay_11 : ∀ (n : Nat) (v1 : Int32) (u : US), Sim tI mX11_readDay 4 (fX11_readDay_11 n v1 u) 11 [some (.ref 0), some (.int v1)] [] u := by
  intro n
  induction n with
  | zero =>
    intro v1 u
    rw [fX11_readDay_11.eq_1]
    exact r_none
  | succ n ih =>
    intro v1 u
    rw [fX11_readDay_11.eq_2]
    refine r_iload_n dX11_readDay_11 rfl ?_
    refine r_bipush dX11_readDay_12 (v := 60) rfl ?_
    refine r_icmp_ge dX11_readDay_14 (tgt := 41) rfl ?_ ?_
    · refine r_mk [true, false] (ls2 := [some (.ref 0), none]) rfl ?_
      exact sX11_readDay_41 u
    · refine r_aload_n dX11_readDay_17 rfl ?_
      refine r_get 0 1 flX11_21 rfl (v := .ref 2) rfl dX11_readDay_18 ?_
      refine c_VI (As := []) kvX11_289 rfl (by decide) (okX5_peek u) rfl (Nat.le_of_ble_eq_true rfl) rfl dX11_readDay_21 (fun r1 u1 => ?_)
      refine r_iconst dX11_readDay_24 (v := -1) rfl ?_
      refine r_icmp_eq dX11_readDay_25 (tgt := 41) rfl ?_ ?_
      · refine r_mk [true, false] (ls2 := [some (.ref 0), none]) rfl ?_
        exact sX11_readDay_41 u1
      · refine r_aload_n dX11_readDay_28 rfl ?_
        refine r_get 0 1 flX11_21 rfl (v := .ref 2) rfl dX11_readDay_29 ?_
        refine c_VV (As := []) kvX11_292 rfl (by decide) (okX5_passAct u1) rfl (Nat.le_of_ble_eq_true rfl) rfl dX11_readDay_32 (fun u2 => ?_)
        refine r_iinc dX11_readDay_35 (Nat.le_of_ble_eq_true rfl) rfl (v := v1 + 1) rfl (ls2 := [some (.ref 0), some (.int (v1 + 1))]) rfl ?_
        refine r_goto dX11_readDay_38 (tgt := 11) rfl ?_
        exact ih (v1 + 1) u2
def fX11_readDay (u : US) : Option (Int32 × US) :=
  oV (fX5_open 60 u) fun u1 => fX11_readDay_11 FU 0 u1
set_option maxRecDepth 20000 in
theorem sX11_readDay (u : US) : Sim tI mX11_readDay 4 (fX11_readDay u) 0 [some (.ref 0), none] [] u := by
  unfold fX11_readDay
  refine r_aload_n dX11_readDay_0 rfl ?_
  refine r_get 0 1 flX11_21 rfl (v := .ref 2) rfl dX11_readDay_1 ?_
  refine r_bipush dX11_readDay_4 (v := 60) rfl ?_
  refine c_VV (As := [.int 60]) kvX11_104 rfl (by decide) (okX5_open 60 u) rfl (Nat.le_of_ble_eq_true rfl) rfl dX11_readDay_6 (fun u1 => ?_)
  refine r_iconst dX11_readDay_9 (v := 0) rfl ?_
  refine r_istore_n dX11_readDay_10 (Nat.le_of_ble_eq_true rfl) (ls2 := [some (.ref 0), some (.int 0)]) rfl ?_
  exact sX11_readDay_11 FU 0 u1
theorem okX11_readDay (u : US) : ∀ r, fX11_readDay u = some r → MetC mX11_readDay 4 [.ref 0] u (tI r) :=
  met_of (by decide +kernel) (Nat.le_of_ble_eq_true rfl) rfl (sX11_readDay u)
def fX11_day_14 (v1 : Int32) (u : US) : Option (Int32 × US) :=
  oV (fX7_clear u) fun u1 => some (v1, u1)
set_option maxRecDepth 20000 in
theorem sX11_day_14 (v1 : Int32) (u : US) : Sim tI mX11_day 8 (fX11_day_14 v1 u) 14 [some (.ref 0), some (.int v1)] [] u := by
  unfold fX11_day_14
  refine r_aload_n dX11_day_14 rfl ?_
  refine r_get 0 0 flX11_10 rfl (v := .ref 1) rfl dX11_day_15 ?_
  refine c_VV (As := []) kvX11_115 rfl (by decide) (okX7_clear u) rfl (Nat.le_of_ble_eq_true rfl) rfl dX11_day_18 (fun u1 => ?_)
  refine r_iload_n dX11_day_21 rfl ?_
  exact r_ireturn rfl dX11_day_22
def fX11_day (u : US) : Option (Int32 × US) :=
  oB (fX11_readDay u) fun r1 u1 => (if r1 = 0 then oB (fX11_liveDay u1) fun r2 u2 => fX11_day_14 r2 u2 else fX11_day_14 r1 u1)
set_option maxRecDepth 20000 in
theorem sX11_day (u : US) : Sim tI mX11_day 8 (fX11_day u) 0 [some (.ref 0), none] [] u := by
  unfold fX11_day
  refine r_aload_n dX11_day_0 rfl ?_
  refine c_VI (As := []) kvX11_283 rfl (by decide) (okX11_readDay u) rfl (Nat.le_of_ble_eq_true rfl) rfl dX11_day_1 (fun r1 u1 => ?_)
  refine r_istore_n dX11_day_4 (Nat.le_of_ble_eq_true rfl) (ls2 := [some (.ref 0), some (.int r1)]) rfl ?_
  refine r_iload_n dX11_day_5 rfl ?_
  refine r_if_ne dX11_day_6 (tgt := 14) rfl ?_ ?_
  · exact sX11_day_14 r1 u1
  · refine r_aload_n dX11_day_9 rfl ?_
    refine c_VI (As := []) kvX11_286 rfl (by decide) (okX11_liveDay u1) rfl (Nat.le_of_ble_eq_true rfl) rfl dX11_day_10 (fun r2 u2 => ?_)
    refine r_istore_n dX11_day_13 (Nat.le_of_ble_eq_true rfl) (ls2 := [some (.ref 0), some (.int r2)]) rfl ?_
    exact sX11_day_14 r2 u2
theorem okX11_day (u : US) : ∀ r, fX11_day u = some r → MetC mX11_day 8 [.ref 0] u (tI r) :=
  met_of (by decide +kernel) (Nat.le_of_ble_eq_true rfl) rfl (sX11_day u)
def fX11_doubts (v1 : Int32) (v2 : Int32) (u : US) : Option (Int32 × US) :=
  oB (fX8_isRoom v1 u) fun r1 u1 => (if r1 = 0 then some ((-1), u1) else oB (fX8_isRoom v2 u1) fun r2 u2 => (if r2 = 0 then some ((-1), u2) else (if v1 = v2 then some ((-1), u2) else oB (fX8_near 4 v1 u2) fun r3 u3 => oB (fX8_near 4 v2 u3) fun r4 u4 => oB (fX8_seenFrom 4 v1 u4) fun r5 u5 => oB (fX8_seenFrom 4 v2 u5) fun r6 u6 => oV (fX2_tellTwo ((((r5 ^^^ r6) &&& (r3 &&& r4)) &&& r5 : Int32).toInt64) ((r3 &&& r4 : Int32).toInt64) u6) fun u7 => some ((r5 ^^^ r6) &&& (r3 &&& r4), u7))))
set_option maxRecDepth 20000 in
theorem sX11_doubts (v1 : Int32) (v2 : Int32) (u : US) : Sim tI mX11_doubts 9 (fX11_doubts v1 v2 u) 0 [some (.ref 0), some (.int v1), some (.int v2), none, none, none] [] u := by
  unfold fX11_doubts
  refine r_aload_n dX11_doubts_0 rfl ?_
  refine r_get 0 2 flX11_28 rfl (v := .ref 3) rfl dX11_doubts_1 ?_
  refine r_iload_n dX11_doubts_4 rfl ?_
  refine c_VI (As := [.int v1]) kvX11_209 rfl (by decide) (okX8_isRoom v1 u) rfl (Nat.le_of_ble_eq_true rfl) rfl dX11_doubts_5 (fun r1 u1 => ?_)
  refine r_if_eq dX11_doubts_8 (tgt := 27) rfl ?_ ?_
  · refine r_iconst dX11_doubts_27 (v := -1) rfl ?_
    exact r_ireturn rfl dX11_doubts_28
  · refine r_aload_n dX11_doubts_11 rfl ?_
    refine r_get 0 2 flX11_28 rfl (v := .ref 3) rfl dX11_doubts_12 ?_
    refine r_iload_n dX11_doubts_15 rfl ?_
    refine c_VI (As := [.int v2]) kvX11_209 rfl (by decide) (okX8_isRoom v2 u1) rfl (Nat.le_of_ble_eq_true rfl) rfl dX11_doubts_16 (fun r2 u2 => ?_)
    refine r_if_eq dX11_doubts_19 (tgt := 27) rfl ?_ ?_
    · refine r_iconst dX11_doubts_27 (v := -1) rfl ?_
      exact r_ireturn rfl dX11_doubts_28
    · refine r_iload_n dX11_doubts_22 rfl ?_
      refine r_iload_n dX11_doubts_23 rfl ?_
      refine r_icmp_ne dX11_doubts_24 (tgt := 29) rfl ?_ ?_
      · refine r_aload_n dX11_doubts_29 rfl ?_
        refine r_get 0 2 flX11_28 rfl (v := .ref 3) rfl dX11_doubts_30 ?_
        refine r_aload_n dX11_doubts_33 rfl ?_
        refine r_get 0 3 flX11_35 rfl (v := .ref 4) rfl dX11_doubts_34 ?_
        refine r_iload_n dX11_doubts_37 rfl ?_
        refine c_VI (As := [.ref 4, .int v1]) kvX11_224 rfl (by decide) (okX8_near 4 v1 u2) rfl (Nat.le_of_ble_eq_true rfl) rfl dX11_doubts_38 (fun r3 u3 => ?_)
        refine r_aload_n dX11_doubts_41 rfl ?_
        refine r_get 0 2 flX11_28 rfl (v := .ref 3) rfl dX11_doubts_42 ?_
        refine r_aload_n dX11_doubts_45 rfl ?_
        refine r_get 0 3 flX11_35 rfl (v := .ref 4) rfl dX11_doubts_46 ?_
        refine r_iload_n dX11_doubts_49 rfl ?_
        refine c_VI (As := [.ref 4, .int v2]) kvX11_224 rfl (by decide) (okX8_near 4 v2 u3) rfl (Nat.le_of_ble_eq_true rfl) rfl dX11_doubts_50 (fun r4 u4 => ?_)
        refine r_iand dX11_doubts_53 ?_
        refine r_istore_n dX11_doubts_54 (Nat.le_of_ble_eq_true rfl) (ls2 := [some (.ref 0), some (.int v1), some (.int v2), some (.int (r3 &&& r4)), none, none]) rfl ?_
        refine r_aload_n dX11_doubts_55 rfl ?_
        refine r_get 0 2 flX11_28 rfl (v := .ref 3) rfl dX11_doubts_56 ?_
        refine r_aload_n dX11_doubts_59 rfl ?_
        refine r_get 0 3 flX11_35 rfl (v := .ref 4) rfl dX11_doubts_60 ?_
        refine r_iload_n dX11_doubts_63 rfl ?_
        refine c_VI (As := [.ref 4, .int v1]) kvX11_221 rfl (by decide) (okX8_seenFrom 4 v1 u4) rfl (Nat.le_of_ble_eq_true rfl) rfl dX11_doubts_64 (fun r5 u5 => ?_)
        refine r_istore dX11_doubts_67 (Nat.le_of_ble_eq_true rfl) (ls2 := [some (.ref 0), some (.int v1), some (.int v2), some (.int (r3 &&& r4)), some (.int r5), none]) rfl ?_
        refine r_iload dX11_doubts_69 rfl ?_
        refine r_aload_n dX11_doubts_71 rfl ?_
        refine r_get 0 2 flX11_28 rfl (v := .ref 3) rfl dX11_doubts_72 ?_
        refine r_aload_n dX11_doubts_75 rfl ?_
        refine r_get 0 3 flX11_35 rfl (v := .ref 4) rfl dX11_doubts_76 ?_
        refine r_iload_n dX11_doubts_79 rfl ?_
        refine c_VI (As := [.ref 4, .int v2]) kvX11_221 rfl (by decide) (okX8_seenFrom 4 v2 u5) rfl (Nat.le_of_ble_eq_true rfl) rfl dX11_doubts_80 (fun r6 u6 => ?_)
        refine r_ixor dX11_doubts_83 ?_
        refine r_iload_n dX11_doubts_84 rfl ?_
        refine r_iand dX11_doubts_85 ?_
        refine r_istore dX11_doubts_86 (Nat.le_of_ble_eq_true rfl) (ls2 := [some (.ref 0), some (.int v1), some (.int v2), some (.int (r3 &&& r4)), some (.int r5), some (.int ((r5 ^^^ r6) &&& (r3 &&& r4)))]) rfl ?_
        refine r_aload_n dX11_doubts_88 rfl ?_
        refine r_get 0 7 flX11_55 rfl (v := .ref 8) rfl dX11_doubts_89 ?_
        refine r_iload dX11_doubts_92 rfl ?_
        refine r_iload dX11_doubts_94 rfl ?_
        refine r_iand dX11_doubts_96 ?_
        refine r_i2l dX11_doubts_97 ?_
        refine r_iload_n dX11_doubts_98 rfl ?_
        refine r_i2l dX11_doubts_99 ?_
        refine c_VV (As := [.long ((((r5 ^^^ r6) &&& (r3 &&& r4)) &&& r5 : Int32).toInt64), .long ((r3 &&& r4 : Int32).toInt64)]) kvX11_298 rfl (by decide) (okX2_tellTwo ((((r5 ^^^ r6) &&& (r3 &&& r4)) &&& r5 : Int32).toInt64) ((r3 &&& r4 : Int32).toInt64) u6) rfl (Nat.le_of_ble_eq_true rfl) rfl dX11_doubts_100 (fun u7 => ?_)
        refine r_iload dX11_doubts_103 rfl ?_
        exact r_ireturn rfl dX11_doubts_105
      · refine r_iconst dX11_doubts_27 (v := -1) rfl ?_
        exact r_ireturn rfl dX11_doubts_28
theorem okX11_doubts (v1 : Int32) (v2 : Int32) (u : US) : ∀ r, fX11_doubts v1 v2 u = some r → MetC mX11_doubts 9 [.ref 0, .int v1, .int v2] u (tI r) :=
  met_of (by decide +kernel) (Nat.le_of_ble_eq_true rfl) rfl (sX11_doubts v1 v2 u)
def fX11_draw (v1 : Int32) (u : US) : Option (Int32 × US) :=
  nx (sI u 0 13 (((gI u 0 13) * 1103515245) + 12345)) fun u1 => (if v1 ≤ 0 then some (0, u1) else if v1 = 0 then none else some ((ush (gI u1 0 13) 16) - (ush (gI u1 0 13) 16) / v1 * v1, u1))
set_option maxRecDepth 20000 in
theorem sX11_draw (v1 : Int32) (u : US) : Sim tI mX11_draw 0 (fX11_draw v1 u) 0 [some (.ref 0), some (.int v1)] [] u := by
  unfold fX11_draw
  refine r_aload_n dX11_draw_0 rfl ?_
  refine r_aload_n dX11_draw_1 rfl ?_
  refine r_get 0 13 flX11_453 rfl (v := .int (gI u 0 13)) rfl dX11_draw_2 ?_
  refine r_ldc_w dX11_draw_5 kIX11_462 ?_
  refine r_imul dX11_draw_8 ?_
  refine r_sipush dX11_draw_9 (v := 12345) rfl ?_
  refine r_iadd dX11_draw_12 ?_
  refine r_put 0 13 fpX11_453 rfl rfl dX11_draw_13 (r_nx (fun u1 => ?_))
  refine r_iload_n dX11_draw_16 rfl ?_
  refine r_if_le dX11_draw_17 (tgt := 32) rfl ?_ ?_
  · refine r_iconst dX11_draw_32 (v := 0) rfl ?_
    exact r_ireturn rfl dX11_draw_33
  · refine r_aload_n dX11_draw_20 rfl ?_
    refine r_get 0 13 flX11_453 rfl (v := .int (gI u1 0 13)) rfl dX11_draw_21 ?_
    refine r_bipush dX11_draw_24 (v := 16) rfl ?_
    refine r_iushr dX11_draw_26 ?_
    refine r_iload_n dX11_draw_27 rfl ?_
    refine r_irem dX11_draw_28 ?_
    refine r_goto dX11_draw_29 (tgt := 33) rfl ?_
    exact r_ireturn rfl dX11_draw_33
theorem okX11_draw (v1 : Int32) (u : US) : ∀ r, fX11_draw v1 u = some r → MetC mX11_draw 0 [.ref 0, .int v1] u (tI r) :=
  met_of (by decide +kernel) (Nat.le_of_ble_eq_true rfl) rfl (sX11_draw v1 u)
def fX7_cut (v1 : Int32) (u : US) : Option (Int32 × US) :=
  (if v1 < 0 then some (0, u) else (if v1 ≤ (gI u 1 1) then nx (sI u 1 1 v1) fun u1 => some (1, u1) else some (0, u)))
set_option maxRecDepth 20000 in
theorem sX7_cut (v1 : Int32) (u : US) : Sim tI mX7_cut 0 (fX7_cut v1 u) 0 [some (.ref 1), some (.int v1)] [] u := by
  unfold fX7_cut
  refine r_iload_n dX7_cut_0 rfl ?_
  refine r_if_lt dX7_cut_1 (tgt := 12) rfl ?_ ?_
  · refine r_iconst dX7_cut_12 (v := 0) rfl ?_
    exact r_zreturn0 rfl dX7_cut_13
  · refine r_iload_n dX7_cut_4 rfl ?_
    refine r_aload_n dX7_cut_5 rfl ?_
    refine r_get 1 1 flX7_15 rfl (v := .int (gI u 1 1)) rfl dX7_cut_6 ?_
    refine r_icmp_le dX7_cut_9 (tgt := 14) rfl ?_ ?_
    · refine r_aload_n dX7_cut_14 rfl ?_
      refine r_iload_n dX7_cut_15 rfl ?_
      refine r_put 1 1 fpX7_15 rfl rfl dX7_cut_16 (r_nx (fun u1 => ?_))
      refine r_iconst dX7_cut_19 (v := 1) rfl ?_
      exact r_zreturn1 rfl dX7_cut_20
    · refine r_iconst dX7_cut_12 (v := 0) rfl ?_
      exact r_zreturn0 rfl dX7_cut_13
theorem okX7_cut (v1 : Int32) (u : US) : ∀ r, fX7_cut v1 u = some r → MetC mX7_cut 0 [.ref 1, .int v1] u (tI r) :=
  met_of (by decide +kernel) (Nat.le_of_ble_eq_true rfl) rfl (sX7_cut v1 u)
def fX11_end (v1 : Int32) (u : US) : Option (Int32 × US) :=
  oB (fX7_cut v1 u) fun r1 u1 => gd (isB r1) (some (r1, u1))
set_option maxRecDepth 20000 in
theorem sX11_end (v1 : Int32) (u : US) : Sim tI mX11_end 1 (fX11_end v1 u) 0 [some (.ref 0), some (.int v1)] [] u := by
  unfold fX11_end
  refine r_aload_n dX11_end_0 rfl ?_
  refine r_get 0 0 flX11_10 rfl (v := .ref 1) rfl dX11_end_1 ?_
  refine r_iload_n dX11_end_4 rfl ?_
  refine c_VI (As := [.int v1]) kvX11_100 rfl (by decide) (okX7_cut v1 u) rfl (Nat.le_of_ble_eq_true rfl) rfl dX11_end_5 (fun r1 u1 => ?_)
  exact r_zreturn rfl dX11_end_8
theorem okX11_end (v1 : Int32) (u : US) : ∀ r, fX11_end v1 u = some r → MetC mX11_end 1 [.ref 0, .int v1] u (tI r) :=
  met_of (by decide +kernel) (Nat.le_of_ble_eq_true rfl) rfl (sX11_end v1 u)
def fX11_first_37 (v1 : Int32) (v2 : Int32) : Nat → Int32 → US → Option (Int32 × US)
  | 0, _, _ => none
  | n + 1, v3, u => (if (99 : Int32) < v3 then some ((-2), u) else oB (fX8_sees 6 v1 v2 u) fun r1 u1 => (if r1 = 0 then oV (fX8_walk 6 u1) fun u2 => fX11_first_37 v1 v2 n (v3 + 1) u2 else gd (inb v2 8) (oV (fX2_tellOne ((gA u1 28 v2 : Int32).toInt64) u1) fun u3 => some (v3, u3))))
set_option maxRecDepth 20000 in
theorem sX11_first_37 (v1 : Int32) (v2 : Int32) : ∀ (n : Nat) (v3 : Int32) (u : US), Sim tI mX11_first 9 (fX11_first_37 v1 v2 n v3 u) 37 [some (.ref 0), some (.int v1), some (.int v2), some (.int v3)] [] u := by
  intro n
  induction n with
  | zero =>
    intro v3 u
    rw [fX11_first_37.eq_1]
    exact r_none
  | succ n ih =>
    intro v3 u
    rw [fX11_first_37.eq_2]
    refine r_iload_n dX11_first_37 rfl ?_
    refine r_bipush dX11_first_38 (v := 99) rfl ?_
    refine r_icmp_gt dX11_first_40 (tgt := 95) rfl ?_ ?_
    · refine r_bipush dX11_first_95 (v := -2) rfl ?_
      exact r_ireturn rfl dX11_first_97
    · refine r_aload_n dX11_first_43 rfl ?_
      refine r_get 0 2 flX11_28 rfl (v := .ref 3) rfl dX11_first_44 ?_
      refine r_aload_n dX11_first_47 rfl ?_
      refine r_get 0 5 flX11_42 rfl (v := .ref 6) rfl dX11_first_48 ?_
      refine r_iload_n dX11_first_51 rfl ?_
      refine r_iload_n dX11_first_52 rfl ?_
      refine c_VI (As := [.ref 6, .int v1, .int v2]) kvX11_326 rfl (by decide) (okX8_sees 6 v1 v2 u) rfl (Nat.le_of_ble_eq_true rfl) rfl dX11_first_53 (fun r1 u1 => ?_)
      refine r_if_eq dX11_first_56 (tgt := 78) rfl ?_ ?_
      · refine r_aload_n dX11_first_78 rfl ?_
        refine r_get 0 2 flX11_28 rfl (v := .ref 3) rfl dX11_first_79 ?_
        refine r_aload_n dX11_first_82 rfl ?_
        refine r_get 0 5 flX11_42 rfl (v := .ref 6) rfl dX11_first_83 ?_
        refine c_VV (As := [.ref 6]) kvX11_273 rfl (by decide) (okX8_walk 6 u1) rfl (Nat.le_of_ble_eq_true rfl) rfl dX11_first_86 (fun u2 => ?_)
        refine r_iinc dX11_first_89 (Nat.le_of_ble_eq_true rfl) rfl (v := v3 + 1) rfl (ls2 := [some (.ref 0), some (.int v1), some (.int v2), some (.int (v3 + 1))]) rfl ?_
        refine r_goto dX11_first_92 (tgt := 37) rfl ?_
        exact ih (v3 + 1) u2
      · refine r_aload_n dX11_first_59 rfl ?_
        refine r_get 0 7 flX11_55 rfl (v := .ref 8) rfl dX11_first_60 ?_
        refine r_aload_n dX11_first_63 rfl ?_
        refine r_get 0 5 flX11_42 rfl (v := .ref 6) rfl dX11_first_64 ?_
        refine r_get 6 0 flX11_177 rfl (v := .ref 28) rfl dX11_first_67 ?_
        refine r_iload_n dX11_first_70 rfl ?_
        refine r_iald 28 rfl dX11_first_71 ?_
        refine r_i2l dX11_first_72 ?_
        refine c_VV (As := [.long ((gA u1 28 v2 : Int32).toInt64)]) kvX11_330 rfl (by decide) (okX2_tellOne ((gA u1 28 v2 : Int32).toInt64) u1) rfl (Nat.le_of_ble_eq_true rfl) rfl dX11_first_73 (fun u3 => ?_)
        refine r_iload_n dX11_first_76 rfl ?_
        exact r_ireturn rfl dX11_first_77
def fX11_first (v1 : Int32) (v2 : Int32) (u : US) : Option (Int32 × US) :=
  oB (fX8_isRoom v1 u) fun r1 u1 => (if r1 = 0 then some ((-1), u1) else oB (fX8_isThing v2 u1) fun r2 u2 => (if r2 = 0 then some ((-1), u2) else oV (fX1_copy 6 4 u2) fun u3 => fX11_first_37 v1 v2 FU 0 u3))
set_option maxRecDepth 20000 in
theorem sX11_first (v1 : Int32) (v2 : Int32) (u : US) : Sim tI mX11_first 9 (fX11_first v1 v2 u) 0 [some (.ref 0), some (.int v1), some (.int v2), none] [] u := by
  unfold fX11_first
  refine r_aload_n dX11_first_0 rfl ?_
  refine r_get 0 2 flX11_28 rfl (v := .ref 3) rfl dX11_first_1 ?_
  refine r_iload_n dX11_first_4 rfl ?_
  refine c_VI (As := [.int v1]) kvX11_209 rfl (by decide) (okX8_isRoom v1 u) rfl (Nat.le_of_ble_eq_true rfl) rfl dX11_first_5 (fun r1 u1 => ?_)
  refine r_if_eq dX11_first_8 (tgt := 22) rfl ?_ ?_
  · refine r_iconst dX11_first_22 (v := -1) rfl ?_
    exact r_ireturn rfl dX11_first_23
  · refine r_aload_n dX11_first_11 rfl ?_
    refine r_get 0 2 flX11_28 rfl (v := .ref 3) rfl dX11_first_12 ?_
    refine r_iload_n dX11_first_15 rfl ?_
    refine c_VI (As := [.int v2]) kvX11_164 rfl (by decide) (okX8_isThing v2 u1) rfl (Nat.le_of_ble_eq_true rfl) rfl dX11_first_16 (fun r2 u2 => ?_)
    refine r_if_ne dX11_first_19 (tgt := 24) rfl ?_ ?_
    · refine r_aload_n dX11_first_24 rfl ?_
      refine r_get 0 5 flX11_42 rfl (v := .ref 6) rfl dX11_first_25 ?_
      refine r_aload_n dX11_first_28 rfl ?_
      refine r_get 0 3 flX11_35 rfl (v := .ref 4) rfl dX11_first_29 ?_
      refine c_VV (As := [.ref 4]) kvX11_231 rfl (by decide) (okX1_copy 6 4 u2) rfl (Nat.le_of_ble_eq_true rfl) rfl dX11_first_32 (fun u3 => ?_)
      refine r_iconst dX11_first_35 (v := 0) rfl ?_
      refine r_istore_n dX11_first_36 (Nat.le_of_ble_eq_true rfl) (ls2 := [some (.ref 0), some (.int v1), some (.int v2), some (.int 0)]) rfl ?_
      exact sX11_first_37 v1 v2 FU 0 u3
    · refine r_iconst dX11_first_22 (v := -1) rfl ?_
      exact r_ireturn rfl dX11_first_23
theorem okX11_first (v1 : Int32) (v2 : Int32) (u : US) : ∀ r, fX11_first v1 v2 u = some r → MetC mX11_first 9 [.ref 0, .int v1, .int v2] u (tI r) :=
  met_of (by decide +kernel) (Nat.le_of_ble_eq_true rfl) rfl (sX11_first v1 v2 u)
def fX11_fits_4 : Nat → Int32 → Int32 → US → Option (Int32 × US)
  | 0, _, _, _ => none
  | n + 1, v1, v2, u => (if (gI u 3 3) ≤ v2 then oB (fJ6_bitCount_0f7a4 v1 u) fun r1 u1 => oV (fX2_tellOne ((r1 : Int32).toInt64) u1) fun u2 => some (v1, u2) else gd (inb v2 8) (gd (inb v2 8) (oB (fX10_allows (gA u 18 v2) (gA u 19 v2) u) fun r3 u3 => (if r3 = 0 then fX11_fits_4 n v1 (v2 + 1) u3 else fX11_fits_4 n (v1 ||| (1 <<< (v2 &&& 31))) (v2 + 1) u3))))
set_option maxRecDepth 20000 in
theorem sX11_fits_4 : ∀ (n : Nat) (v1 : Int32) (v2 : Int32) (u : US), Sim tI mX11_fits 2 (fX11_fits_4 n v1 v2 u) 4 [some (.ref 0), some (.int v1), some (.int v2)] [] u := by
  intro n
  induction n with
  | zero =>
    intro v1 v2 u
    rw [fX11_fits_4.eq_1]
    exact r_none
  | succ n ih =>
    intro v1 v2 u
    rw [fX11_fits_4.eq_2]
    refine r_iload_n dX11_fits_4 rfl ?_
    refine r_aload_n dX11_fits_5 rfl ?_
    refine r_get 0 2 flX11_28 rfl (v := .ref 3) rfl dX11_fits_6 ?_
    refine r_get 3 3 flX11_357 rfl (v := .int (gI u 3 3)) rfl dX11_fits_9 ?_
    refine r_icmp_ge dX11_fits_12 (tgt := 55) rfl ?_ ?_
    · refine r_aload_n dX11_fits_55 rfl ?_
      refine r_get 0 7 flX11_55 rfl (v := .ref 8) rfl dX11_fits_56 ?_
      refine r_iload_n dX11_fits_59 rfl ?_
      refine c_SI (As := [.int v1]) ksX11_254 (by decide) (okJ6_bitCount_0f7a4 v1 u) rfl (Nat.le_of_ble_eq_true rfl) rfl dX11_fits_60 (fun r1 u1 => ?_)
      refine r_i2l dX11_fits_63 ?_
      refine c_VV (As := [.long ((r1 : Int32).toInt64)]) kvX11_330 rfl (by decide) (okX2_tellOne ((r1 : Int32).toInt64) u1) rfl (Nat.le_of_ble_eq_true rfl) rfl dX11_fits_64 (fun u2 => ?_)
      refine r_iload_n dX11_fits_67 rfl ?_
      exact r_ireturn rfl dX11_fits_68
    · refine r_aload_n dX11_fits_15 rfl ?_
      refine r_get 0 10 flX11_78 rfl (v := .ref 11) rfl dX11_fits_16 ?_
      refine r_aload_n dX11_fits_19 rfl ?_
      refine r_get 0 2 flX11_28 rfl (v := .ref 3) rfl dX11_fits_20 ?_
      refine r_get 3 7 flX11_190 rfl (v := .ref 18) rfl dX11_fits_23 ?_
      refine r_iload_n dX11_fits_26 rfl ?_
      refine r_iald 18 rfl dX11_fits_27 ?_
      refine r_aload_n dX11_fits_28 rfl ?_
      refine r_get 0 2 flX11_28 rfl (v := .ref 3) rfl dX11_fits_29 ?_
      refine r_get 3 8 flX11_193 rfl (v := .ref 19) rfl dX11_fits_32 ?_
      refine r_iload_n dX11_fits_35 rfl ?_
      refine r_iald 19 rfl dX11_fits_36 ?_
      refine c_VI (As := [.int (gA u 18 v2), .int (gA u 19 v2)]) kvX11_409 rfl (by decide) (okX10_allows (gA u 18 v2) (gA u 19 v2) u) rfl (Nat.le_of_ble_eq_true rfl) rfl dX11_fits_37 (fun r3 u3 => ?_)
      refine r_if_eq dX11_fits_40 (tgt := 49) rfl ?_ ?_
      · refine r_iinc dX11_fits_49 (Nat.le_of_ble_eq_true rfl) rfl (v := v2 + 1) rfl (ls2 := [some (.ref 0), some (.int v1), some (.int (v2 + 1))]) rfl ?_
        refine r_goto dX11_fits_52 (tgt := 4) rfl ?_
        exact ih v1 (v2 + 1) u3
      · refine r_iload_n dX11_fits_43 rfl ?_
        refine r_iconst dX11_fits_44 (v := 1) rfl ?_
        refine r_iload_n dX11_fits_45 rfl ?_
        refine r_ishl dX11_fits_46 ?_
        refine r_ior dX11_fits_47 ?_
        refine r_istore_n dX11_fits_48 (Nat.le_of_ble_eq_true rfl) (ls2 := [some (.ref 0), some (.int (v1 ||| (1 <<< (v2 &&& 31)))), some (.int v2)]) rfl ?_
        refine r_iinc dX11_fits_49 (Nat.le_of_ble_eq_true rfl) rfl (v := v2 + 1) rfl (ls2 := [some (.ref 0), some (.int (v1 ||| (1 <<< (v2 &&& 31)))), some (.int (v2 + 1))]) rfl ?_
        refine r_goto dX11_fits_52 (tgt := 4) rfl ?_
        exact ih (v1 ||| (1 <<< (v2 &&& 31))) (v2 + 1) u3
def fX11_fits (u : US) : Option (Int32 × US) :=
  fX11_fits_4 FU 0 0 u
set_option maxRecDepth 20000 in
theorem sX11_fits (u : US) : Sim tI mX11_fits 2 (fX11_fits u) 0 [some (.ref 0), none, none] [] u := by
  unfold fX11_fits
  refine r_iconst dX11_fits_0 (v := 0) rfl ?_
  refine r_istore_n dX11_fits_1 (Nat.le_of_ble_eq_true rfl) (ls2 := [some (.ref 0), some (.int 0), none]) rfl ?_
  refine r_iconst dX11_fits_2 (v := 0) rfl ?_
  refine r_istore_n dX11_fits_3 (Nat.le_of_ble_eq_true rfl) (ls2 := [some (.ref 0), some (.int 0), some (.int 0)]) rfl ?_
  exact sX11_fits_4 FU 0 0 u
theorem okX11_fits (u : US) : ∀ r, fX11_fits u = some r → MetC mX11_fits 2 [.ref 0] u (tI r) :=
  met_of (by decide +kernel) (Nat.le_of_ble_eq_true rfl) rfl (sX11_fits u)
def fX11_forget (u : US) : Option (Int32 × US) :=
  oB (fX10_clear u) fun r1 u1 => some (r1, u1)
set_option maxRecDepth 20000 in
theorem sX11_forget (u : US) : Sim tI mX11_forget 1 (fX11_forget u) 0 [some (.ref 0)] [] u := by
  unfold fX11_forget
  refine r_aload_n dX11_forget_0 rfl ?_
  refine r_get 0 10 flX11_78 rfl (v := .ref 11) rfl dX11_forget_1 ?_
  refine c_VI (As := []) kvX11_126 rfl (by decide) (okX10_clear u) rfl (Nat.le_of_ble_eq_true rfl) rfl dX11_forget_4 (fun r1 u1 => ?_)
  exact r_ireturn rfl dX11_forget_7
theorem okX11_forget (u : US) : ∀ r, fX11_forget u = some r → MetC mX11_forget 1 [.ref 0] u (tI r) :=
  met_of (by decide +kernel) (Nat.le_of_ble_eq_true rfl) rfl (sX11_forget u)
def fX11_gain (v0 : Int32) (v1 : Int32) (v2 : Int32) (u : US) : Option (Int32 × US) :=
  if (3 : Int32) = 0 then none else some ((v0 * v1) - ((v1 * v2) / 3), u)
set_option maxRecDepth 20000 in
theorem sX11_gain (v0 : Int32) (v1 : Int32) (v2 : Int32) (u : US) : Sim tI mX11_gain 0 (fX11_gain v0 v1 v2 u) 0 [some (.int v0), some (.int v1), some (.int v2)] [] u := by
  unfold fX11_gain
  refine r_iload_n dX11_gain_0 rfl ?_
  refine r_iload_n dX11_gain_1 rfl ?_
  refine r_imul dX11_gain_2 ?_
  refine r_iload_n dX11_gain_3 rfl ?_
  refine r_iload_n dX11_gain_4 rfl ?_
  refine r_imul dX11_gain_5 ?_
  refine r_iconst dX11_gain_6 (v := 3) rfl ?_
  refine r_idiv dX11_gain_7 ?_
  refine r_isub dX11_gain_8 ?_
  exact r_ireturn rfl dX11_gain_9
theorem okX11_gain (v0 : Int32) (v1 : Int32) (v2 : Int32) (u : US) : ∀ r, fX11_gain v0 v1 v2 u = some r → MetC mX11_gain 0 [.int v0, .int v1, .int v2] u (tI r) :=
  met_of (by decide +kernel) (Nat.le_of_ble_eq_true rfl) rfl (sX11_gain v0 v1 v2 u)
def fX3_fewest_50 (v1 : Int32) (v2 : Int32) (k9 : Int32 → Int32 → Int32 → US → Option (Int32 × US)) (v3 : Int32) (v4 : Int32) (v5 : Int32) (s0 : Int32) (u : US) : Option (Int32 × US) :=
  (if s0 = 0 then k9 v3 v4 (v5 + 1) u else oB (fJ6_bitCount_0f7a4 v5 u) fun r1 u1 => (if v4 ≤ r1 then k9 v3 v4 (v5 + 1) u1 else oB (fJ6_bitCount_0f7a4 v5 u1) fun r2 u2 => k9 v5 r2 (v5 + 1) u2))
set_option maxRecDepth 20000 in
theorem sX3_fewest_50 (v1 : Int32) (v2 : Int32) (k9 : Int32 → Int32 → Int32 → US → Option (Int32 × US)) (hk9 : ∀ (v3 : Int32) (v4 : Int32) (v5 : Int32) (u : US), Sim tI mX3_fewest 2 (k9 v3 v4 v5 u) 9 [some (.ref 9), some (.int v1), some (.int v2), some (.int v3), some (.int v4), some (.int v5), none, none] [] u) (v3 : Int32) (v4 : Int32) (v5 : Int32) (s0 : Int32) (u : US) : Sim tI mX3_fewest 2 (fX3_fewest_50 v1 v2 k9 v3 v4 v5 s0 u) 50 [some (.ref 9), some (.int v1), some (.int v2), some (.int v3), some (.int v4), some (.int v5), none, none] [.int s0] u := by
  unfold fX3_fewest_50
  refine r_istore dX3_fewest_50 (Nat.le_of_ble_eq_true rfl) (ls2 := [some (.ref 9), some (.int v1), some (.int v2), some (.int v3), some (.int v4), some (.int v5), none, some (.int s0)]) rfl ?_
  refine r_iload dX3_fewest_52 rfl ?_
  refine r_if_eq dX3_fewest_54 (tgt := 77) rfl ?_ ?_
  · refine r_iinc dX3_fewest_77 (Nat.le_of_ble_eq_true rfl) rfl (v := v5 + 1) rfl (ls2 := [some (.ref 9), some (.int v1), some (.int v2), some (.int v3), some (.int v4), some (.int (v5 + 1)), none, some (.int s0)]) rfl ?_
    refine r_goto dX3_fewest_80 (tgt := 9) rfl ?_
    refine r_mk [true, true, true, true, true, true, false, false] (ls2 := [some (.ref 9), some (.int v1), some (.int v2), some (.int v3), some (.int v4), some (.int (v5 + 1)), none, none]) rfl ?_
    exact hk9 v3 v4 (v5 + 1) u
  · refine r_iload dX3_fewest_57 rfl ?_
    refine c_SI (As := [.int v5]) ksX3_30 (by decide) (okJ6_bitCount_0f7a4 v5 u) rfl (Nat.le_of_ble_eq_true rfl) rfl dX3_fewest_59 (fun r1 u1 => ?_)
    refine r_iload dX3_fewest_62 rfl ?_
    refine r_icmp_ge dX3_fewest_64 (tgt := 77) rfl ?_ ?_
    · refine r_iinc dX3_fewest_77 (Nat.le_of_ble_eq_true rfl) rfl (v := v5 + 1) rfl (ls2 := [some (.ref 9), some (.int v1), some (.int v2), some (.int v3), some (.int v4), some (.int (v5 + 1)), none, some (.int s0)]) rfl ?_
      refine r_goto dX3_fewest_80 (tgt := 9) rfl ?_
      refine r_mk [true, true, true, true, true, true, false, false] (ls2 := [some (.ref 9), some (.int v1), some (.int v2), some (.int v3), some (.int v4), some (.int (v5 + 1)), none, none]) rfl ?_
      exact hk9 v3 v4 (v5 + 1) u1
    · refine r_iload dX3_fewest_67 rfl ?_
      refine r_istore_n dX3_fewest_69 (Nat.le_of_ble_eq_true rfl) (ls2 := [some (.ref 9), some (.int v1), some (.int v2), some (.int v5), some (.int v4), some (.int v5), none, some (.int s0)]) rfl ?_
      refine r_iload dX3_fewest_70 rfl ?_
      refine c_SI (As := [.int v5]) ksX3_30 (by decide) (okJ6_bitCount_0f7a4 v5 u1) rfl (Nat.le_of_ble_eq_true rfl) rfl dX3_fewest_72 (fun r2 u2 => ?_)
      refine r_istore dX3_fewest_75 (Nat.le_of_ble_eq_true rfl) (ls2 := [some (.ref 9), some (.int v1), some (.int v2), some (.int v5), some (.int r2), some (.int v5), none, some (.int s0)]) rfl ?_
      refine r_iinc dX3_fewest_77 (Nat.le_of_ble_eq_true rfl) rfl (v := v5 + 1) rfl (ls2 := [some (.ref 9), some (.int v1), some (.int v2), some (.int v5), some (.int r2), some (.int (v5 + 1)), none, some (.int s0)]) rfl ?_
      refine r_goto dX3_fewest_80 (tgt := 9) rfl ?_
      refine r_mk [true, true, true, true, true, true, false, false] (ls2 := [some (.ref 9), some (.int v1), some (.int v2), some (.int v5), some (.int r2), some (.int (v5 + 1)), none, none]) rfl ?_
      exact hk9 v5 r2 (v5 + 1) u2
def fX3_fewest_49 (v1 : Int32) (v2 : Int32) (k9 : Int32 → Int32 → Int32 → US → Option (Int32 × US)) (v3 : Int32) (v4 : Int32) (v5 : Int32) (u : US) : Option (Int32 × US) :=
  fX3_fewest_50 v1 v2 k9 v3 v4 v5 0 u
set_option maxRecDepth 20000 in
theorem sX3_fewest_49 (v1 : Int32) (v2 : Int32) (k9 : Int32 → Int32 → Int32 → US → Option (Int32 × US)) (hk9 : ∀ (v3 : Int32) (v4 : Int32) (v5 : Int32) (u : US), Sim tI mX3_fewest 2 (k9 v3 v4 v5 u) 9 [some (.ref 9), some (.int v1), some (.int v2), some (.int v3), some (.int v4), some (.int v5), none, none] [] u) (v3 : Int32) (v4 : Int32) (v5 : Int32) (u : US) : Sim tI mX3_fewest 2 (fX3_fewest_49 v1 v2 k9 v3 v4 v5 u) 49 [some (.ref 9), some (.int v1), some (.int v2), some (.int v3), some (.int v4), some (.int v5), none, none] [] u := by
  unfold fX3_fewest_49
  refine r_iconst dX3_fewest_49 (v := 0) rfl ?_
  exact sX3_fewest_50 v1 v2 k9 hk9 v3 v4 v5 0 u
def fX3_fewest_9 (v1 : Int32) (v2 : Int32) : Nat → Int32 → Int32 → Int32 → US → Option (Int32 × US)
  | 0, _, _, _, _ => none
  | n + 1, v3, v4, v5, u => oB (fX11_allOf (gI u 9 1) u) fun r1 u1 => (if r1 < v5 then some (v3, u1) else oB (fX3_union v5 u1) fun r2 u2 => (if (v1 &&& (r2 ^^^ (-1))) = 0 then (if (v2 &&& r2) = 0 then fX3_fewest_50 v1 v2 (fX3_fewest_9 v1 v2 n) v3 v4 v5 1 u2 else fX3_fewest_49 v1 v2 (fX3_fewest_9 v1 v2 n) v3 v4 v5 u2) else fX3_fewest_49 v1 v2 (fX3_fewest_9 v1 v2 n) v3 v4 v5 u2))
set_option maxRecDepth 20000 in
theorem sX3_fewest_9 (v1 : Int32) (v2 : Int32) : ∀ (n : Nat) (v3 : Int32) (v4 : Int32) (v5 : Int32) (u : US), Sim tI mX3_fewest 2 (fX3_fewest_9 v1 v2 n v3 v4 v5 u) 9 [some (.ref 9), some (.int v1), some (.int v2), some (.int v3), some (.int v4), some (.int v5), none, none] [] u := by
  intro n
  induction n with
  | zero =>
    intro v3 v4 v5 u
    rw [fX3_fewest_9.eq_1]
    exact r_none
  | succ n ih =>
    intro v3 v4 v5 u
    rw [fX3_fewest_9.eq_2]
    refine r_iload dX3_fewest_9 rfl ?_
    refine r_aload_n dX3_fewest_11 rfl ?_
    refine r_get 9 1 flX3_15 rfl (v := .int (gI u 9 1)) rfl dX3_fewest_12 ?_
    refine c_NI (As := [.int (gI u 9 1)]) knX3_23 (by decide) (okX11_allOf (gI u 9 1) u) rfl (Nat.le_of_ble_eq_true rfl) rfl dX3_fewest_15 (fun r1 u1 => ?_)
    refine r_icmp_gt dX3_fewest_18 (tgt := 83) rfl ?_ ?_
    · refine r_iload_n dX3_fewest_83 rfl ?_
      exact r_ireturn rfl dX3_fewest_84
    · refine r_aload_n dX3_fewest_21 rfl ?_
      refine r_iload dX3_fewest_22 rfl ?_
      refine c_VI (As := [.int v5]) kvX3_27 rfl (by decide) (okX3_union v5 u1) rfl (Nat.le_of_ble_eq_true rfl) rfl dX3_fewest_24 (fun r2 u2 => ?_)
      refine r_istore dX3_fewest_27 (Nat.le_of_ble_eq_true rfl) (ls2 := [some (.ref 9), some (.int v1), some (.int v2), some (.int v3), some (.int v4), some (.int v5), some (.int r2), none]) rfl ?_
      refine r_iload_n dX3_fewest_29 rfl ?_
      refine r_iload dX3_fewest_30 rfl ?_
      refine r_iconst dX3_fewest_32 (v := -1) rfl ?_
      refine r_ixor dX3_fewest_33 ?_
      refine r_iand dX3_fewest_34 ?_
      refine r_if_ne dX3_fewest_35 (tgt := 49) rfl ?_ ?_
      · refine r_mk [true, true, true, true, true, true, false, false] (ls2 := [some (.ref 9), some (.int v1), some (.int v2), some (.int v3), some (.int v4), some (.int v5), none, none]) rfl ?_
        exact sX3_fewest_49 v1 v2 (fX3_fewest_9 v1 v2 n) ih v3 v4 v5 u2
      · refine r_iload_n dX3_fewest_38 rfl ?_
        refine r_iload dX3_fewest_39 rfl ?_
        refine r_iand dX3_fewest_41 ?_
        refine r_if_ne dX3_fewest_42 (tgt := 49) rfl ?_ ?_
        · refine r_mk [true, true, true, true, true, true, false, false] (ls2 := [some (.ref 9), some (.int v1), some (.int v2), some (.int v3), some (.int v4), some (.int v5), none, none]) rfl ?_
          exact sX3_fewest_49 v1 v2 (fX3_fewest_9 v1 v2 n) ih v3 v4 v5 u2
        · refine r_iconst dX3_fewest_45 (v := 1) rfl ?_
          refine r_goto dX3_fewest_46 (tgt := 50) rfl ?_
          refine r_mk [true, true, true, true, true, true, false, false] (ls2 := [some (.ref 9), some (.int v1), some (.int v2), some (.int v3), some (.int v4), some (.int v5), none, none]) rfl ?_
          exact sX3_fewest_50 v1 v2 (fX3_fewest_9 v1 v2 n) ih v3 v4 v5 1 u2
def fX3_fewest (v1 : Int32) (v2 : Int32) (u : US) : Option (Int32 × US) :=
  fX3_fewest_9 v1 v2 FU (-1) 9 0 u
set_option maxRecDepth 20000 in
theorem sX3_fewest (v1 : Int32) (v2 : Int32) (u : US) : Sim tI mX3_fewest 2 (fX3_fewest v1 v2 u) 0 [some (.ref 9), some (.int v1), some (.int v2), none, none, none, none, none] [] u := by
  unfold fX3_fewest
  refine r_iconst dX3_fewest_0 (v := -1) rfl ?_
  refine r_istore_n dX3_fewest_1 (Nat.le_of_ble_eq_true rfl) (ls2 := [some (.ref 9), some (.int v1), some (.int v2), some (.int (-1)), none, none, none, none]) rfl ?_
  refine r_bipush dX3_fewest_2 (v := 9) rfl ?_
  refine r_istore dX3_fewest_4 (Nat.le_of_ble_eq_true rfl) (ls2 := [some (.ref 9), some (.int v1), some (.int v2), some (.int (-1)), some (.int 9), none, none, none]) rfl ?_
  refine r_iconst dX3_fewest_6 (v := 0) rfl ?_
  refine r_istore dX3_fewest_7 (Nat.le_of_ble_eq_true rfl) (ls2 := [some (.ref 9), some (.int v1), some (.int v2), some (.int (-1)), some (.int 9), some (.int 0), none, none]) rfl ?_
  exact sX3_fewest_9 v1 v2 FU (-1) 9 0 u
theorem okX3_fewest (v1 : Int32) (v2 : Int32) (u : US) : ∀ r, fX3_fewest v1 v2 u = some r → MetC mX3_fewest 2 [.ref 9, .int v1, .int v2] u (tI r) :=
  met_of (by decide +kernel) (Nat.le_of_ble_eq_true rfl) rfl (sX3_fewest v1 v2 u)
def fX11_tellFewest (v1 : Int32) (v2 : Int32) (u : US) : Option (Int32 × US) :=
  oB (fX3_fewest v1 v2 u) fun r1 u1 => (if r1 = (-1) then some ((-2), u1) else oV (fX2_tellOne ((r1 : Int32).toInt64) u1) fun u2 => oB (fJ6_bitCount_0f7a4 r1 u2) fun r3 u3 => some (r3, u3))
set_option maxRecDepth 20000 in
theorem sX11_tellFewest (v1 : Int32) (v2 : Int32) (u : US) : Sim tI mX11_tellFewest 3 (fX11_tellFewest v1 v2 u) 0 [some (.ref 0), some (.int v1), some (.int v2), none] [] u := by
  unfold fX11_tellFewest
  refine r_aload_n dX11_tellFewest_0 rfl ?_
  refine r_get 0 8 flX11_62 rfl (v := .ref 9) rfl dX11_tellFewest_1 ?_
  refine r_iload_n dX11_tellFewest_4 rfl ?_
  refine r_iload_n dX11_tellFewest_5 rfl ?_
  refine c_VI (As := [.int v1, .int v2]) kvX11_351 rfl (by decide) (okX3_fewest v1 v2 u) rfl (Nat.le_of_ble_eq_true rfl) rfl dX11_tellFewest_6 (fun r1 u1 => ?_)
  refine r_istore_n dX11_tellFewest_9 (Nat.le_of_ble_eq_true rfl) (ls2 := [some (.ref 0), some (.int v1), some (.int v2), some (.int r1)]) rfl ?_
  refine r_iload_n dX11_tellFewest_10 rfl ?_
  refine r_iconst dX11_tellFewest_11 (v := -1) rfl ?_
  refine r_icmp_ne dX11_tellFewest_12 (tgt := 18) rfl ?_ ?_
  · refine r_aload_n dX11_tellFewest_18 rfl ?_
    refine r_get 0 7 flX11_55 rfl (v := .ref 8) rfl dX11_tellFewest_19 ?_
    refine r_iload_n dX11_tellFewest_22 rfl ?_
    refine r_i2l dX11_tellFewest_23 ?_
    refine c_VV (As := [.long ((r1 : Int32).toInt64)]) kvX11_330 rfl (by decide) (okX2_tellOne ((r1 : Int32).toInt64) u1) rfl (Nat.le_of_ble_eq_true rfl) rfl dX11_tellFewest_24 (fun u2 => ?_)
    refine r_iload_n dX11_tellFewest_27 rfl ?_
    refine c_SI (As := [.int r1]) ksX11_254 (by decide) (okJ6_bitCount_0f7a4 r1 u2) rfl (Nat.le_of_ble_eq_true rfl) rfl dX11_tellFewest_28 (fun r3 u3 => ?_)
    exact r_ireturn rfl dX11_tellFewest_31
  · refine r_bipush dX11_tellFewest_15 (v := -2) rfl ?_
    exact r_ireturn rfl dX11_tellFewest_17
theorem okX11_tellFewest (v1 : Int32) (v2 : Int32) (u : US) : ∀ r, fX11_tellFewest v1 v2 u = some r → MetC mX11_tellFewest 3 [.ref 0, .int v1, .int v2] u (tI r) :=
  met_of (by decide +kernel) (Nat.le_of_ble_eq_true rfl) rfl (sX11_tellFewest v1 v2 u)
def fX8_areThings (v1 : Int32) (u : US) : Option (Int32 × US) :=
  oB (fX8_allThings u) fun r1 u1 => (if (v1 &&& (r1 ^^^ (-1))) = 0 then some (1, u1) else some (0, u1))
set_option maxRecDepth 20000 in
theorem sX8_areThings (v1 : Int32) (u : US) : Sim tI mX8_areThings 2 (fX8_areThings v1 u) 0 [some (.ref 3), some (.int v1)] [] u := by
  unfold fX8_areThings
  refine r_iload_n dX8_areThings_0 rfl ?_
  refine r_aload_n dX8_areThings_1 rfl ?_
  refine c_VI (As := []) kvX8_57 rfl (by decide) (okX8_allThings u) rfl (Nat.le_of_ble_eq_true rfl) rfl dX8_areThings_2 (fun r1 u1 => ?_)
  refine r_iconst dX8_areThings_5 (v := -1) rfl ?_
  refine r_ixor dX8_areThings_6 ?_
  refine r_iand dX8_areThings_7 ?_
  refine r_if_ne dX8_areThings_8 (tgt := 15) rfl ?_ ?_
  · refine r_iconst dX8_areThings_15 (v := 0) rfl ?_
    exact r_zreturn0 rfl dX8_areThings_16
  · refine r_iconst dX8_areThings_11 (v := 1) rfl ?_
    refine r_goto dX8_areThings_12 (tgt := 16) rfl ?_
    exact r_zreturn1 rfl dX8_areThings_16
theorem okX8_areThings (v1 : Int32) (u : US) : ∀ r, fX8_areThings v1 u = some r → MetC mX8_areThings 2 [.ref 3, .int v1] u (tI r) :=
  met_of (by decide +kernel) (Nat.le_of_ble_eq_true rfl) rfl (sX8_areThings v1 u)
def fX11_glaze (v1 : Int32) (v2 : Int32) (v3 : Int32) (u : US) : Option (Int32 × US) :=
  oB (fX8_isRoom v1 u) fun r1 u1 => (if r1 = 0 then some ((-1), u1) else oB (fX8_areThings v2 u1) fun r2 u2 => (if r2 = 0 then some ((-1), u2) else oB (fX8_areThings v3 u2) fun r3 u3 => (if r3 = 0 then some ((-1), u3) else oV (fX11_partByPanes v1 u3) fun u4 => oB (fX11_tellFewest v2 v3 u4) fun r5 u5 => some (r5, u5))))
set_option maxRecDepth 20000 in
theorem sX11_glaze (v1 : Int32) (v2 : Int32) (v3 : Int32) (u : US) : Sim tI mX11_glaze 8 (fX11_glaze v1 v2 v3 u) 0 [some (.ref 0), some (.int v1), some (.int v2), some (.int v3)] [] u := by
  unfold fX11_glaze
  refine r_aload_n dX11_glaze_0 rfl ?_
  refine r_get 0 2 flX11_28 rfl (v := .ref 3) rfl dX11_glaze_1 ?_
  refine r_iload_n dX11_glaze_4 rfl ?_
  refine c_VI (As := [.int v1]) kvX11_209 rfl (by decide) (okX8_isRoom v1 u) rfl (Nat.le_of_ble_eq_true rfl) rfl dX11_glaze_5 (fun r1 u1 => ?_)
  refine r_if_eq dX11_glaze_8 (tgt := 33) rfl ?_ ?_
  · refine r_iconst dX11_glaze_33 (v := -1) rfl ?_
    exact r_ireturn rfl dX11_glaze_34
  · refine r_aload_n dX11_glaze_11 rfl ?_
    refine r_get 0 2 flX11_28 rfl (v := .ref 3) rfl dX11_glaze_12 ?_
    refine r_iload_n dX11_glaze_15 rfl ?_
    refine c_VI (As := [.int v2]) kvX11_342 rfl (by decide) (okX8_areThings v2 u1) rfl (Nat.le_of_ble_eq_true rfl) rfl dX11_glaze_16 (fun r2 u2 => ?_)
    refine r_if_eq dX11_glaze_19 (tgt := 33) rfl ?_ ?_
    · refine r_iconst dX11_glaze_33 (v := -1) rfl ?_
      exact r_ireturn rfl dX11_glaze_34
    · refine r_aload_n dX11_glaze_22 rfl ?_
      refine r_get 0 2 flX11_28 rfl (v := .ref 3) rfl dX11_glaze_23 ?_
      refine r_iload_n dX11_glaze_26 rfl ?_
      refine c_VI (As := [.int v3]) kvX11_342 rfl (by decide) (okX8_areThings v3 u2) rfl (Nat.le_of_ble_eq_true rfl) rfl dX11_glaze_27 (fun r3 u3 => ?_)
      refine r_if_ne dX11_glaze_30 (tgt := 35) rfl ?_ ?_
      · refine r_aload_n dX11_glaze_35 rfl ?_
        refine r_iload_n dX11_glaze_36 rfl ?_
        refine c_VV (As := [.int v1]) kvX11_354 rfl (by decide) (okX11_partByPanes v1 u3) rfl (Nat.le_of_ble_eq_true rfl) rfl dX11_glaze_37 (fun u4 => ?_)
        refine r_aload_n dX11_glaze_40 rfl ?_
        refine r_iload_n dX11_glaze_41 rfl ?_
        refine r_iload_n dX11_glaze_42 rfl ?_
        refine c_VI (As := [.int v2, .int v3]) kvX11_348 rfl (by decide) (okX11_tellFewest v2 v3 u4) rfl (Nat.le_of_ble_eq_true rfl) rfl dX11_glaze_43 (fun r5 u5 => ?_)
        exact r_ireturn rfl dX11_glaze_46
      · refine r_iconst dX11_glaze_33 (v := -1) rfl ?_
        exact r_ireturn rfl dX11_glaze_34
theorem okX11_glaze (v1 : Int32) (v2 : Int32) (v3 : Int32) (u : US) : ∀ r, fX11_glaze v1 v2 v3 u = some r → MetC mX11_glaze 8 [.ref 0, .int v1, .int v2, .int v3] u (tI r) :=
  met_of (by decide +kernel) (Nat.le_of_ble_eq_true rfl) rfl (sX11_glaze v1 v2 v3 u)
def fX11_hang (v1 : Int32) (v2 : Int32) (u : US) : Option (Int32 × US) :=
  oV (fX1_copy 5 4 u) fun u1 => oB (fX11_hangPane v1 v2 u1) fun r2 u2 => oB (fX11_remembered r2 u2) fun r3 u3 => some (r3, u3)
set_option maxRecDepth 20000 in
theorem sX11_hang (v1 : Int32) (v2 : Int32) (u : US) : Sim tI mX11_hang 8 (fX11_hang v1 v2 u) 0 [some (.ref 0), some (.int v1), some (.int v2)] [] u := by
  unfold fX11_hang
  refine r_aload_n dX11_hang_0 rfl ?_
  refine r_get 0 4 flX11_39 rfl (v := .ref 5) rfl dX11_hang_1 ?_
  refine r_aload_n dX11_hang_4 rfl ?_
  refine r_get 0 3 flX11_35 rfl (v := .ref 4) rfl dX11_hang_5 ?_
  refine c_VV (As := [.ref 4]) kvX11_231 rfl (by decide) (okX1_copy 5 4 u) rfl (Nat.le_of_ble_eq_true rfl) rfl dX11_hang_8 (fun u1 => ?_)
  refine r_aload_n dX11_hang_11 rfl ?_
  refine r_aload_n dX11_hang_12 rfl ?_
  refine r_iload_n dX11_hang_13 rfl ?_
  refine r_iload_n dX11_hang_14 rfl ?_
  refine c_VI (As := [.int v1, .int v2]) kvX11_235 rfl (by decide) (okX11_hangPane v1 v2 u1) rfl (Nat.le_of_ble_eq_true rfl) rfl dX11_hang_15 (fun r2 u2 => ?_)
  refine c_VI (As := [.int r2]) kvX11_238 rfl (by decide) (okX11_remembered r2 u2) rfl (Nat.le_of_ble_eq_true rfl) rfl dX11_hang_18 (fun r3 u3 => ?_)
  exact r_ireturn rfl dX11_hang_21
theorem okX11_hang (v1 : Int32) (v2 : Int32) (u : US) : ∀ r, fX11_hang v1 v2 u = some r → MetC mX11_hang 8 [.ref 0, .int v1, .int v2] u (tI r) :=
  met_of (by decide +kernel) (Nat.le_of_ble_eq_true rfl) rfl (sX11_hang v1 v2 u)
def fX11_hidden_12 : Nat → Int32 → Int32 → Int32 → US → Option (Int32 × US)
  | 0, _, _, _, _ => none
  | n + 1, v1, v2, v3, u => (if (gI u 3 4) ≤ v3 then oB (fX8_allThings u) fun r1 u1 => oB (fJ6_bitCount_0f7a4 (r1 &&& (v1 ^^^ (-1))) u1) fun r2 u2 => oV (fX2_tellTwo ((r2 : Int32).toInt64) ((v2 : Int32).toInt64) u2) fun u3 => some (r1 &&& (v1 ^^^ (-1)), u3) else oB (fX8_seenFrom 4 v3 u) fun r4 u4 => fX11_hidden_12 n (v1 ||| r4) (v2 &&& r4) (v3 + 1) u4)
set_option maxRecDepth 20000 in
theorem sX11_hidden_12 : ∀ (n : Nat) (v1 : Int32) (v2 : Int32) (v3 : Int32) (u : US), Sim tI mX11_hidden 9 (fX11_hidden_12 n v1 v2 v3 u) 12 [some (.ref 0), some (.int v1), some (.int v2), some (.int v3), none] [] u := by
  intro n
  induction n with
  | zero =>
    intro v1 v2 v3 u
    rw [fX11_hidden_12.eq_1]
    exact r_none
  | succ n ih =>
    intro v1 v2 v3 u
    rw [fX11_hidden_12.eq_2]
    refine r_iload_n dX11_hidden_12 rfl ?_
    refine r_aload_n dX11_hidden_13 rfl ?_
    refine r_get 0 2 flX11_28 rfl (v := .ref 3) rfl dX11_hidden_14 ?_
    refine r_get 3 4 flX11_267 rfl (v := .int (gI u 3 4)) rfl dX11_hidden_17 ?_
    refine r_icmp_ge dX11_hidden_20 (tgt := 53) rfl ?_ ?_
    · refine r_aload_n dX11_hidden_53 rfl ?_
      refine r_get 0 2 flX11_28 rfl (v := .ref 3) rfl dX11_hidden_54 ?_
      refine c_VI (As := []) kvX11_202 rfl (by decide) (okX8_allThings u) rfl (Nat.le_of_ble_eq_true rfl) rfl dX11_hidden_57 (fun r1 u1 => ?_)
      refine r_iload_n dX11_hidden_60 rfl ?_
      refine r_iconst dX11_hidden_61 (v := -1) rfl ?_
      refine r_ixor dX11_hidden_62 ?_
      refine r_iand dX11_hidden_63 ?_
      refine r_istore_n dX11_hidden_64 (Nat.le_of_ble_eq_true rfl) (ls2 := [some (.ref 0), some (.int v1), some (.int v2), some (.int (r1 &&& (v1 ^^^ (-1)))), none]) rfl ?_
      refine r_aload_n dX11_hidden_65 rfl ?_
      refine r_get 0 7 flX11_55 rfl (v := .ref 8) rfl dX11_hidden_66 ?_
      refine r_iload_n dX11_hidden_69 rfl ?_
      refine c_SI (As := [.int (r1 &&& (v1 ^^^ (-1)))]) ksX11_254 (by decide) (okJ6_bitCount_0f7a4 (r1 &&& (v1 ^^^ (-1))) u1) rfl (Nat.le_of_ble_eq_true rfl) rfl dX11_hidden_70 (fun r2 u2 => ?_)
      refine r_i2l dX11_hidden_73 ?_
      refine r_iload_n dX11_hidden_74 rfl ?_
      refine r_i2l dX11_hidden_75 ?_
      refine c_VV (As := [.long ((r2 : Int32).toInt64), .long ((v2 : Int32).toInt64)]) kvX11_298 rfl (by decide) (okX2_tellTwo ((r2 : Int32).toInt64) ((v2 : Int32).toInt64) u2) rfl (Nat.le_of_ble_eq_true rfl) rfl dX11_hidden_76 (fun u3 => ?_)
      refine r_iload_n dX11_hidden_79 rfl ?_
      exact r_ireturn rfl dX11_hidden_80
    · refine r_aload_n dX11_hidden_23 rfl ?_
      refine r_get 0 2 flX11_28 rfl (v := .ref 3) rfl dX11_hidden_24 ?_
      refine r_aload_n dX11_hidden_27 rfl ?_
      refine r_get 0 3 flX11_35 rfl (v := .ref 4) rfl dX11_hidden_28 ?_
      refine r_iload_n dX11_hidden_31 rfl ?_
      refine c_VI (As := [.ref 4, .int v3]) kvX11_221 rfl (by decide) (okX8_seenFrom 4 v3 u) rfl (Nat.le_of_ble_eq_true rfl) rfl dX11_hidden_32 (fun r4 u4 => ?_)
      refine r_istore dX11_hidden_35 (Nat.le_of_ble_eq_true rfl) (ls2 := [some (.ref 0), some (.int v1), some (.int v2), some (.int v3), some (.int r4)]) rfl ?_
      refine r_iload_n dX11_hidden_37 rfl ?_
      refine r_iload dX11_hidden_38 rfl ?_
      refine r_ior dX11_hidden_40 ?_
      refine r_istore_n dX11_hidden_41 (Nat.le_of_ble_eq_true rfl) (ls2 := [some (.ref 0), some (.int (v1 ||| r4)), some (.int v2), some (.int v3), some (.int r4)]) rfl ?_
      refine r_iload_n dX11_hidden_42 rfl ?_
      refine r_iload dX11_hidden_43 rfl ?_
      refine r_iand dX11_hidden_45 ?_
      refine r_istore_n dX11_hidden_46 (Nat.le_of_ble_eq_true rfl) (ls2 := [some (.ref 0), some (.int (v1 ||| r4)), some (.int (v2 &&& r4)), some (.int v3), some (.int r4)]) rfl ?_
      refine r_iinc dX11_hidden_47 (Nat.le_of_ble_eq_true rfl) rfl (v := v3 + 1) rfl (ls2 := [some (.ref 0), some (.int (v1 ||| r4)), some (.int (v2 &&& r4)), some (.int (v3 + 1)), some (.int r4)]) rfl ?_
      refine r_goto dX11_hidden_50 (tgt := 12) rfl ?_
      refine r_mk [true, true, true, true, false] (ls2 := [some (.ref 0), some (.int (v1 ||| r4)), some (.int (v2 &&& r4)), some (.int (v3 + 1)), none]) rfl ?_
      exact ih (v1 ||| r4) (v2 &&& r4) (v3 + 1) u4
def fX11_hidden (u : US) : Option (Int32 × US) :=
  oB (fX8_allThings u) fun r1 u1 => fX11_hidden_12 FU 0 r1 0 u1
set_option maxRecDepth 20000 in
theorem sX11_hidden (u : US) : Sim tI mX11_hidden 9 (fX11_hidden u) 0 [some (.ref 0), none, none, none, none] [] u := by
  unfold fX11_hidden
  refine r_iconst dX11_hidden_0 (v := 0) rfl ?_
  refine r_istore_n dX11_hidden_1 (Nat.le_of_ble_eq_true rfl) (ls2 := [some (.ref 0), some (.int 0), none, none, none]) rfl ?_
  refine r_aload_n dX11_hidden_2 rfl ?_
  refine r_get 0 2 flX11_28 rfl (v := .ref 3) rfl dX11_hidden_3 ?_
  refine c_VI (As := []) kvX11_202 rfl (by decide) (okX8_allThings u) rfl (Nat.le_of_ble_eq_true rfl) rfl dX11_hidden_6 (fun r1 u1 => ?_)
  refine r_istore_n dX11_hidden_9 (Nat.le_of_ble_eq_true rfl) (ls2 := [some (.ref 0), some (.int 0), some (.int r1), none, none]) rfl ?_
  refine r_iconst dX11_hidden_10 (v := 0) rfl ?_
  refine r_istore_n dX11_hidden_11 (Nat.le_of_ble_eq_true rfl) (ls2 := [some (.ref 0), some (.int 0), some (.int r1), some (.int 0), none]) rfl ?_
  exact sX11_hidden_12 FU 0 r1 0 u1
theorem okX11_hidden (u : US) : ∀ r, fX11_hidden u = some r → MetC mX11_hidden 9 [.ref 0] u (tI r) :=
  met_of (by decide +kernel) (Nat.le_of_ble_eq_true rfl) rfl (sX11_hidden u)
def fX2_join (v1 : Int32) (v2 : Int64) (u : US) : Option (US) :=
  (if v1 < 0 then some u else (if (gI u 8 1) ≤ v1 then some u else gd (inb v1 36) (gd (inb v1 36) (nx (sJ u 33 v1 ((gJ u 33 v1) ||| v2)) fun u1 => some u1))))
set_option maxRecDepth 20000 in
theorem sX2_join (v1 : Int32) (v2 : Int64) (u : US) : Sim tV mX2_join 0 (fX2_join v1 v2 u) 0 [some (.ref 8), some (.int v1), some (.long v2), none] [] u := by
  unfold fX2_join
  refine r_iload_n dX2_join_0 rfl ?_
  refine r_if_lt dX2_join_1 (tgt := 22) rfl ?_ ?_
  · exact r_return rfl dX2_join_22
  · refine r_iload_n dX2_join_4 rfl ?_
    refine r_aload_n dX2_join_5 rfl ?_
    refine r_get 8 1 flX2_15 rfl (v := .int (gI u 8 1)) rfl dX2_join_6 ?_
    refine r_icmp_ge dX2_join_9 (tgt := 22) rfl ?_ ?_
    · exact r_return rfl dX2_join_22
    · refine r_aload_n dX2_join_12 rfl ?_
      refine r_get 8 0 flX2_9 rfl (v := .ref 33) rfl dX2_join_13 ?_
      refine r_iload_n dX2_join_16 rfl ?_
      refine r_dup2 dX2_join_17 rfl rfl ?_
      refine r_lald 33 rfl dX2_join_18 ?_
      refine r_lload_n dX2_join_19 rfl ?_
      refine r_lor dX2_join_20 ?_
      refine r_last 33 rfl dX2_join_21 (r_nx (fun u1 => ?_))
      exact r_return rfl dX2_join_22
theorem okX2_join (v1 : Int32) (v2 : Int64) (u : US) : ∀ r, fX2_join v1 v2 u = some r → MetC mX2_join 0 [.ref 8, .int v1, .long v2] u (tV r) :=
  met_of (by decide +kernel) (Nat.le_of_ble_eq_true rfl) rfl (sX2_join v1 v2 u)
def fX11_hours_77 (v1 : Int32) (k59 : Int32 → US → Option (Int32 × US)) : Nat → Int32 → Int32 → US → Option (Int32 × US)
  | 0, _, _, _ => none
  | n + 1, v2, v3, u => (if (gI u 3 4) ≤ v3 then k59 (v2 + 1) u else oB (fX8_seenFrom 4 v3 u) fun r1 u1 => oV (fX2_join v3 ((r1 : Int32).toInt64) u1) fun u2 => fX11_hours_77 v1 k59 n v2 (v3 + 1) u2)
set_option maxRecDepth 20000 in
theorem sX11_hours_77 (v1 : Int32) (k59 : Int32 → US → Option (Int32 × US)) (hk59 : ∀ (v2 : Int32) (u : US), Sim tI mX11_hours 9 (k59 v2 u) 59 [some (.ref 0), some (.int v1), some (.int v2), none] [] u) : ∀ (n : Nat) (v2 : Int32) (v3 : Int32) (u : US), Sim tI mX11_hours 9 (fX11_hours_77 v1 k59 n v2 v3 u) 77 [some (.ref 0), some (.int v1), some (.int v2), some (.int v3)] [] u := by
  intro n
  induction n with
  | zero =>
    intro v2 v3 u
    rw [fX11_hours_77.eq_1]
    exact r_none
  | succ n ih =>
    intro v2 v3 u
    rw [fX11_hours_77.eq_2]
    refine r_iload_n dX11_hours_77 rfl ?_
    refine r_aload_n dX11_hours_78 rfl ?_
    refine r_get 0 2 flX11_28 rfl (v := .ref 3) rfl dX11_hours_79 ?_
    refine r_get 3 4 flX11_267 rfl (v := .int (gI u 3 4)) rfl dX11_hours_82 ?_
    refine r_icmp_ge dX11_hours_85 (tgt := 115) rfl ?_ ?_
    · refine r_iinc dX11_hours_115 (Nat.le_of_ble_eq_true rfl) rfl (v := v2 + 1) rfl (ls2 := [some (.ref 0), some (.int v1), some (.int (v2 + 1)), some (.int v3)]) rfl ?_
      refine r_goto dX11_hours_118 (tgt := 59) rfl ?_
      refine r_mk [true, true, true, false] (ls2 := [some (.ref 0), some (.int v1), some (.int (v2 + 1)), none]) rfl ?_
      exact hk59 (v2 + 1) u
    · refine r_aload_n dX11_hours_88 rfl ?_
      refine r_get 0 7 flX11_55 rfl (v := .ref 8) rfl dX11_hours_89 ?_
      refine r_iload_n dX11_hours_92 rfl ?_
      refine r_aload_n dX11_hours_93 rfl ?_
      refine r_get 0 2 flX11_28 rfl (v := .ref 3) rfl dX11_hours_94 ?_
      refine r_aload_n dX11_hours_97 rfl ?_
      refine r_get 0 3 flX11_35 rfl (v := .ref 4) rfl dX11_hours_98 ?_
      refine r_iload_n dX11_hours_101 rfl ?_
      refine c_VI (As := [.ref 4, .int v3]) kvX11_221 rfl (by decide) (okX8_seenFrom 4 v3 u) rfl (Nat.le_of_ble_eq_true rfl) rfl dX11_hours_102 (fun r1 u1 => ?_)
      refine r_i2l dX11_hours_105 ?_
      refine c_VV (As := [.int v3, .long ((r1 : Int32).toInt64)]) kvX11_276 rfl (by decide) (okX2_join v3 ((r1 : Int32).toInt64) u1) rfl (Nat.le_of_ble_eq_true rfl) rfl dX11_hours_106 (fun u2 => ?_)
      refine r_iinc dX11_hours_109 (Nat.le_of_ble_eq_true rfl) rfl (v := v3 + 1) rfl (ls2 := [some (.ref 0), some (.int v1), some (.int v2), some (.int (v3 + 1))]) rfl ?_
      refine r_goto dX11_hours_112 (tgt := 77) rfl ?_
      exact ih v2 (v3 + 1) u2
def fX11_hours_59 (v1 : Int32) : Nat → Int32 → US → Option (Int32 × US)
  | 0, _, _ => none
  | n + 1, v2, u => (if v1 ≤ v2 then some (gI u 4 4, u) else oV (fX8_walk 4 u) fun u1 => fX11_hours_77 v1 (fX11_hours_59 v1 n) FU v2 0 u1)
set_option maxRecDepth 20000 in
theorem sX11_hours_59 (v1 : Int32) : ∀ (n : Nat) (v2 : Int32) (u : US), Sim tI mX11_hours 9 (fX11_hours_59 v1 n v2 u) 59 [some (.ref 0), some (.int v1), some (.int v2), none] [] u := by
  intro n
  induction n with
  | zero =>
    intro v2 u
    rw [fX11_hours_59.eq_1]
    exact r_none
  | succ n ih =>
    intro v2 u
    rw [fX11_hours_59.eq_2]
    refine r_iload_n dX11_hours_59 rfl ?_
    refine r_iload_n dX11_hours_60 rfl ?_
    refine r_icmp_ge dX11_hours_61 (tgt := 121) rfl ?_ ?_
    · refine r_aload_n dX11_hours_121 rfl ?_
      refine r_get 0 3 flX11_35 rfl (v := .ref 4) rfl dX11_hours_122 ?_
      refine r_get 4 4 flX11_280 rfl (v := .int (gI u 4 4)) rfl dX11_hours_125 ?_
      exact r_ireturn rfl dX11_hours_128
    · refine r_aload_n dX11_hours_64 rfl ?_
      refine r_get 0 2 flX11_28 rfl (v := .ref 3) rfl dX11_hours_65 ?_
      refine r_aload_n dX11_hours_68 rfl ?_
      refine r_get 0 3 flX11_35 rfl (v := .ref 4) rfl dX11_hours_69 ?_
      refine c_VV (As := [.ref 4]) kvX11_273 rfl (by decide) (okX8_walk 4 u) rfl (Nat.le_of_ble_eq_true rfl) rfl dX11_hours_72 (fun u1 => ?_)
      refine r_iconst dX11_hours_75 (v := 0) rfl ?_
      refine r_istore_n dX11_hours_76 (Nat.le_of_ble_eq_true rfl) (ls2 := [some (.ref 0), some (.int v1), some (.int v2), some (.int 0)]) rfl ?_
      exact sX11_hours_77 v1 (fX11_hours_59 v1 n) ih FU v2 0 u1
def fX11_hours_32 (v1 : Int32) : Nat → Int32 → US → Option (Int32 × US)
  | 0, _, _ => none
  | n + 1, v2, u => (if (gI u 3 4) ≤ v2 then fX11_hours_59 v1 FU 0 u else oV (fX2_add 0 u) fun u1 => fX11_hours_32 v1 n (v2 + 1) u1)
set_option maxRecDepth 20000 in
theorem sX11_hours_32 (v1 : Int32) : ∀ (n : Nat) (v2 : Int32) (u : US), Sim tI mX11_hours 9 (fX11_hours_32 v1 n v2 u) 32 [some (.ref 0), some (.int v1), some (.int v2), none] [] u := by
  intro n
  induction n with
  | zero =>
    intro v2 u
    rw [fX11_hours_32.eq_1]
    exact r_none
  | succ n ih =>
    intro v2 u
    rw [fX11_hours_32.eq_2]
    refine r_iload_n dX11_hours_32 rfl ?_
    refine r_aload_n dX11_hours_33 rfl ?_
    refine r_get 0 2 flX11_28 rfl (v := .ref 3) rfl dX11_hours_34 ?_
    refine r_get 3 4 flX11_267 rfl (v := .int (gI u 3 4)) rfl dX11_hours_37 ?_
    refine r_icmp_ge dX11_hours_40 (tgt := 57) rfl ?_ ?_
    · refine r_iconst dX11_hours_57 (v := 0) rfl ?_
      refine r_istore_n dX11_hours_58 (Nat.le_of_ble_eq_true rfl) (ls2 := [some (.ref 0), some (.int v1), some (.int 0), none]) rfl ?_
      exact sX11_hours_59 v1 FU 0 u
    · refine r_aload_n dX11_hours_43 rfl ?_
      refine r_get 0 7 flX11_55 rfl (v := .ref 8) rfl dX11_hours_44 ?_
      refine r_lconst dX11_hours_47 (v := 0) rfl ?_
      refine c_VV (As := [.long 0]) kvX11_270 rfl (by decide) (okX2_add 0 u) rfl (Nat.le_of_ble_eq_true rfl) rfl dX11_hours_48 (fun u1 => ?_)
      refine r_iinc dX11_hours_51 (Nat.le_of_ble_eq_true rfl) rfl (v := v2 + 1) rfl (ls2 := [some (.ref 0), some (.int v1), some (.int (v2 + 1)), none]) rfl ?_
      refine r_goto dX11_hours_54 (tgt := 32) rfl ?_
      exact ih (v2 + 1) u1
def fX11_hours (v1 : Int32) (u : US) : Option (Int32 × US) :=
  (if v1 < 0 then some ((-1), u) else (if v1 ≤ 60 then oV (fX4_push 4 u) fun u1 => oV (fX2_clear u1) fun u2 => fX11_hours_32 v1 FU 0 u2 else some ((-1), u)))
set_option maxRecDepth 20000 in
theorem sX11_hours (v1 : Int32) (u : US) : Sim tI mX11_hours 9 (fX11_hours v1 u) 0 [some (.ref 0), some (.int v1), none, none] [] u := by
  unfold fX11_hours
  refine r_iload_n dX11_hours_0 rfl ?_
  refine r_if_lt dX11_hours_1 (tgt := 10) rfl ?_ ?_
  · refine r_iconst dX11_hours_10 (v := -1) rfl ?_
    exact r_ireturn rfl dX11_hours_11
  · refine r_iload_n dX11_hours_4 rfl ?_
    refine r_bipush dX11_hours_5 (v := 60) rfl ?_
    refine r_icmp_le dX11_hours_7 (tgt := 12) rfl ?_ ?_
    · refine r_aload_n dX11_hours_12 rfl ?_
      refine r_get 0 6 flX11_48 rfl (v := .ref 7) rfl dX11_hours_13 ?_
      refine r_aload_n dX11_hours_16 rfl ?_
      refine r_get 0 3 flX11_35 rfl (v := .ref 4) rfl dX11_hours_17 ?_
      refine c_VV (As := [.ref 4]) kvX11_251 rfl (by decide) (okX4_push 4 u) rfl (Nat.le_of_ble_eq_true rfl) rfl dX11_hours_20 (fun u1 => ?_)
      refine r_aload_n dX11_hours_23 rfl ?_
      refine r_get 0 7 flX11_55 rfl (v := .ref 8) rfl dX11_hours_24 ?_
      refine c_VV (As := []) kvX11_266 rfl (by decide) (okX2_clear u1) rfl (Nat.le_of_ble_eq_true rfl) rfl dX11_hours_27 (fun u2 => ?_)
      refine r_iconst dX11_hours_30 (v := 0) rfl ?_
      refine r_istore_n dX11_hours_31 (Nat.le_of_ble_eq_true rfl) (ls2 := [some (.ref 0), some (.int v1), some (.int 0), none]) rfl ?_
      exact sX11_hours_32 v1 FU 0 u2
    · refine r_iconst dX11_hours_10 (v := -1) rfl ?_
      exact r_ireturn rfl dX11_hours_11
theorem okX11_hours (v1 : Int32) (u : US) : ∀ r, fX11_hours v1 u = some r → MetC mX11_hours 9 [.ref 0, .int v1] u (tI r) :=
  met_of (by decide +kernel) (Nat.le_of_ble_eq_true rfl) rfl (sX11_hours v1 u)
def fX11_isContent_10 (v0 : Int32) (v1 : Int32) (v2 : Int32) : Nat → Int32 → Int32 → US → Option (Int32 × US)
  | 0, _, _, _ => none
  | n + 1, v3, v4, u => (if (10 : Int32) ≤ v4 then some (1, u) else oB (fX11_gain v0 v4 v2 u) fun r1 u1 => (if r1 ≤ v3 then fX11_isContent_10 v0 v1 v2 n v3 (v4 + 1) u1 else some (0, u1)))
set_option maxRecDepth 20000 in
theorem sX11_isContent_10 (v0 : Int32) (v1 : Int32) (v2 : Int32) : ∀ (n : Nat) (v3 : Int32) (v4 : Int32) (u : US), Sim tI mX11_isContent 1 (fX11_isContent_10 v0 v1 v2 n v3 v4 u) 10 [some (.int v0), some (.int v1), some (.int v2), some (.int v3), some (.int v4)] [] u := by
  intro n
  induction n with
  | zero =>
    intro v3 v4 u
    rw [fX11_isContent_10.eq_1]
    exact r_none
  | succ n ih =>
    intro v3 v4 u
    rw [fX11_isContent_10.eq_2]
    refine r_iload dX11_isContent_10 rfl ?_
    refine r_bipush dX11_isContent_12 (v := 10) rfl ?_
    refine r_icmp_ge dX11_isContent_14 (tgt := 36) rfl ?_ ?_
    · refine r_iconst dX11_isContent_36 (v := 1) rfl ?_
      exact r_zreturn1 rfl dX11_isContent_37
    · refine r_iload_n dX11_isContent_17 rfl ?_
      refine r_iload dX11_isContent_18 rfl ?_
      refine r_iload_n dX11_isContent_20 rfl ?_
      refine c_SI (As := [.int v0, .int v4, .int v2]) ksX11_450 (by decide) (okX11_gain v0 v4 v2 u) rfl (Nat.le_of_ble_eq_true rfl) rfl dX11_isContent_21 (fun r1 u1 => ?_)
      refine r_iload_n dX11_isContent_24 rfl ?_
      refine r_icmp_le dX11_isContent_25 (tgt := 30) rfl ?_ ?_
      · refine r_iinc dX11_isContent_30 (Nat.le_of_ble_eq_true rfl) rfl (v := v4 + 1) rfl (ls2 := [some (.int v0), some (.int v1), some (.int v2), some (.int v3), some (.int (v4 + 1))]) rfl ?_
        refine r_goto dX11_isContent_33 (tgt := 10) rfl ?_
        exact ih v3 (v4 + 1) u1
      · refine r_iconst dX11_isContent_28 (v := 0) rfl ?_
        exact r_zreturn0 rfl dX11_isContent_29
def fX11_isContent (v0 : Int32) (v1 : Int32) (v2 : Int32) (u : US) : Option (Int32 × US) :=
  oB (fX11_gain v0 v1 v2 u) fun r1 u1 => fX11_isContent_10 v0 v1 v2 FU r1 0 u1
set_option maxRecDepth 20000 in
theorem sX11_isContent (v0 : Int32) (v1 : Int32) (v2 : Int32) (u : US) : Sim tI mX11_isContent 1 (fX11_isContent v0 v1 v2 u) 0 [some (.int v0), some (.int v1), some (.int v2), none, none] [] u := by
  unfold fX11_isContent
  refine r_iload_n dX11_isContent_0 rfl ?_
  refine r_iload_n dX11_isContent_1 rfl ?_
  refine r_iload_n dX11_isContent_2 rfl ?_
  refine c_SI (As := [.int v0, .int v1, .int v2]) ksX11_450 (by decide) (okX11_gain v0 v1 v2 u) rfl (Nat.le_of_ble_eq_true rfl) rfl dX11_isContent_3 (fun r1 u1 => ?_)
  refine r_istore_n dX11_isContent_6 (Nat.le_of_ble_eq_true rfl) (ls2 := [some (.int v0), some (.int v1), some (.int v2), some (.int r1), none]) rfl ?_
  refine r_iconst dX11_isContent_7 (v := 0) rfl ?_
  refine r_istore dX11_isContent_8 (Nat.le_of_ble_eq_true rfl) (ls2 := [some (.int v0), some (.int v1), some (.int v2), some (.int r1), some (.int 0)]) rfl ?_
  exact sX11_isContent_10 v0 v1 v2 FU r1 0 u1
theorem okX11_isContent (v0 : Int32) (v1 : Int32) (v2 : Int32) (u : US) : ∀ r, fX11_isContent v0 v1 v2 u = some r → MetC mX11_isContent 1 [.int v0, .int v1, .int v2] u (tI r) :=
  met_of (by decide +kernel) (Nat.le_of_ble_eq_true rfl) rfl (sX11_isContent v0 v1 v2 u)
def fX4_save (v1 : Int32) (v2 : Nat) (u : US) : Option (Int32 × US) :=
  gd (isMom v2) ((if v1 < 0 then some (0, u) else (if v1 < 3 then oV (fX1_write v2 32 v1 u) fun u1 => nx (sI u1 7 2 ((gI u1 7 2) ||| (1 <<< (v1 &&& 31)))) fun u2 => some (1, u2) else some (0, u))))
set_option maxRecDepth 20000 in
theorem sX4_save (v1 : Int32) (v2 : Nat) (u : US) : Sim tI mX4_save 6 (fX4_save v1 v2 u) 0 [some (.ref 7), some (.int v1), some (.ref v2)] [] u := by
  unfold fX4_save
  refine r_gd (fun h2 => ?_)
  refine r_iload_n dX4_save_0 rfl ?_
  refine r_if_lt dX4_save_1 (tgt := 9) rfl ?_ ?_
  · refine r_iconst dX4_save_9 (v := 0) rfl ?_
    exact r_zreturn0 rfl dX4_save_10
  · refine r_iload_n dX4_save_4 rfl ?_
    refine r_iconst dX4_save_5 (v := 3) rfl ?_
    refine r_icmp_lt dX4_save_6 (tgt := 11) rfl ?_ ?_
    · refine r_aload_n dX4_save_11 rfl ?_
      refine r_aload_n dX4_save_12 rfl ?_
      refine r_get 7 1 flX4_17 rfl (v := .ref 32) rfl dX4_save_13 ?_
      refine r_iload_n dX4_save_16 rfl ?_
      refine c_VV (As := [.ref 32, .int v1]) kvX4_33 (okO_mom h2) (by decide) (okX1_write v2 32 v1 u) rfl (Nat.le_of_ble_eq_true rfl) rfl dX4_save_17 (fun u1 => ?_)
      refine r_aload_n dX4_save_20 rfl ?_
      refine r_dup dX4_save_21 rfl ?_
      refine r_get 7 2 flX4_24 rfl (v := .int (gI u1 7 2)) rfl dX4_save_22 ?_
      refine r_iconst dX4_save_25 (v := 1) rfl ?_
      refine r_iload_n dX4_save_26 rfl ?_
      refine r_ishl dX4_save_27 ?_
      refine r_ior dX4_save_28 ?_
      refine r_put 7 2 fpX4_24 rfl rfl dX4_save_29 (r_nx (fun u2 => ?_))
      refine r_iconst dX4_save_32 (v := 1) rfl ?_
      exact r_zreturn1 rfl dX4_save_33
    · refine r_iconst dX4_save_9 (v := 0) rfl ?_
      exact r_zreturn0 rfl dX4_save_10
theorem okX4_save (v1 : Int32) (v2 : Nat) (u : US) : ∀ r, fX4_save v1 v2 u = some r → MetC mX4_save 6 [.ref 7, .int v1, .ref v2] u (tI r) :=
  met_of (by decide +kernel) (Nat.le_of_ble_eq_true rfl) rfl (sX4_save v1 v2 u)
def fX11_keep (v1 : Int32) (u : US) : Option (Int32 × US) :=
  oB (fX4_save v1 4 u) fun r1 u1 => gd (isB r1) (some (r1, u1))
set_option maxRecDepth 20000 in
theorem sX11_keep (v1 : Int32) (u : US) : Sim tI mX11_keep 7 (fX11_keep v1 u) 0 [some (.ref 0), some (.int v1)] [] u := by
  unfold fX11_keep
  refine r_aload_n dX11_keep_0 rfl ?_
  refine r_get 0 6 flX11_48 rfl (v := .ref 7) rfl dX11_keep_1 ?_
  refine r_iload_n dX11_keep_4 rfl ?_
  refine r_aload_n dX11_keep_5 rfl ?_
  refine r_get 0 3 flX11_35 rfl (v := .ref 4) rfl dX11_keep_6 ?_
  refine c_VI (As := [.int v1, .ref 4]) kvX11_463 rfl (by decide) (okX4_save v1 4 u) rfl (Nat.le_of_ble_eq_true rfl) rfl dX11_keep_9 (fun r1 u1 => ?_)
  exact r_zreturn rfl dX11_keep_12
theorem okX11_keep (v1 : Int32) (u : US) : ∀ r, fX11_keep v1 u = some r → MetC mX11_keep 7 [.ref 0, .int v1] u (tI r) :=
  met_of (by decide +kernel) (Nat.le_of_ble_eq_true rfl) rfl (sX11_keep v1 u)
def fX6_clear (v0 : Nat) (u : US) : Option (US) :=
  gd (isRul v0) (nx (sI u v0 2 0) fun u1 => some u1)
set_option maxRecDepth 20000 in
theorem sX6_clear (v0 : Nat) (u : US) : Sim tV mX6_clear 0 (fX6_clear v0 u) 0 [some (.ref v0)] [] u := by
  unfold fX6_clear
  refine r_gd (fun h0 => ?_)
  refine r_aload_n dX6_clear_0 rfl ?_
  refine r_iconst dX6_clear_1 (v := 0) rfl ?_
  refine r_put v0 2 fpX6_18 (okO_rul h0) rfl dX6_clear_2 (r_nx (fun u1 => ?_))
  exact r_return rfl dX6_clear_5
theorem okX6_clear (v0 : Nat) (u : US) : ∀ r, fX6_clear v0 u = some r → MetC mX6_clear 0 [.ref v0] u (tV r) :=
  met_of (by decide +kernel) (Nat.le_of_ble_eq_true rfl) rfl (sX6_clear v0 u)
def fX6_emit (v0 : Nat) (v1 : Int32) (u : US) : Option (US) :=
  gd (isRul v0) ((if (40 : Int32) ≤ (gI u v0 2) then some u else gd (inb (gI u v0 2) (ln (fpt v0 0))) (nx (sA u (fpt v0 0) (gI u v0 2) v1) fun u1 => nx (sI u1 v0 2 ((gI u1 v0 2) + 1)) fun u2 => some u2)))
set_option maxRecDepth 20000 in
theorem sX6_emit (v0 : Nat) (v1 : Int32) (u : US) : Sim tV mX6_emit 0 (fX6_emit v0 v1 u) 0 [some (.ref v0), some (.int v1)] [] u := by
  unfold fX6_emit
  refine r_gd (fun h0 => ?_)
  refine r_aload_n dX6_emit_0 rfl ?_
  refine r_get v0 2 flX6_18 (okO_rul h0) (v := .int (gI u v0 2)) (slA_i (okO_rul h0) rfl) dX6_emit_1 ?_
  refine r_bipush dX6_emit_4 (v := 40) rfl ?_
  refine r_icmp_ge dX6_emit_6 (tgt := 29) rfl ?_ ?_
  · exact r_return rfl dX6_emit_29
  · refine r_aload_n dX6_emit_9 rfl ?_
    refine r_get v0 0 flX6_9 (okO_rul h0) (v := .ref (fpt v0 0)) (slA_r (okO_rul h0) rfl rfl) dX6_emit_10 ?_
    refine r_aload_n dX6_emit_13 rfl ?_
    refine r_get v0 2 flX6_18 (okO_rul h0) (v := .int (gI u v0 2)) (slA_i (okO_rul h0) rfl) dX6_emit_14 ?_
    refine r_iload_n dX6_emit_17 rfl ?_
    refine r_iast (fpt v0 0) (okA_rul h0 0 rfl) dX6_emit_18 (r_nx (fun u1 => ?_))
    refine r_aload_n dX6_emit_19 rfl ?_
    refine r_dup dX6_emit_20 rfl ?_
    refine r_get v0 2 flX6_18 (okO_rul h0) (v := .int (gI u1 v0 2)) (slA_i (okO_rul h0) rfl) dX6_emit_21 ?_
    refine r_iconst dX6_emit_24 (v := 1) rfl ?_
    refine r_iadd dX6_emit_25 ?_
    refine r_put v0 2 fpX6_18 (okO_rul h0) rfl dX6_emit_26 (r_nx (fun u2 => ?_))
    exact r_return rfl dX6_emit_29
theorem okX6_emit (v0 : Nat) (v1 : Int32) (u : US) : ∀ r, fX6_emit v0 v1 u = some r → MetC mX6_emit 0 [.ref v0, .int v1] u (tV r) :=
  met_of (by decide +kernel) (Nat.le_of_ble_eq_true rfl) rfl (sX6_emit v0 v1 u)
def fX5_atDigit (u : US) : Option (Int32 × US) :=
  oB (fX5_peek u) fun r1 u1 => (if r1 < 48 then some (0, u1) else oB (fX5_peek u1) fun r2 u2 => (if (57 : Int32) < r2 then some (0, u2) else some (1, u2)))
set_option maxRecDepth 20000 in
theorem sX5_atDigit (u : US) : Sim tI mX5_atDigit 1 (fX5_atDigit u) 0 [some (.ref 2)] [] u := by
  unfold fX5_atDigit
  refine r_aload_n dX5_atDigit_0 rfl ?_
  refine c_VI (As := []) kvX5_34 rfl (by decide) (okX5_peek u) rfl (Nat.le_of_ble_eq_true rfl) rfl dX5_atDigit_1 (fun r1 u1 => ?_)
  refine r_bipush dX5_atDigit_4 (v := 48) rfl ?_
  refine r_icmp_lt dX5_atDigit_6 (tgt := 22) rfl ?_ ?_
  · refine r_iconst dX5_atDigit_22 (v := 0) rfl ?_
    exact r_zreturn0 rfl dX5_atDigit_23
  · refine r_aload_n dX5_atDigit_9 rfl ?_
    refine c_VI (As := []) kvX5_34 rfl (by decide) (okX5_peek u1) rfl (Nat.le_of_ble_eq_true rfl) rfl dX5_atDigit_10 (fun r2 u2 => ?_)
    refine r_bipush dX5_atDigit_13 (v := 57) rfl ?_
    refine r_icmp_gt dX5_atDigit_15 (tgt := 22) rfl ?_ ?_
    · refine r_iconst dX5_atDigit_22 (v := 0) rfl ?_
      exact r_zreturn0 rfl dX5_atDigit_23
    · refine r_iconst dX5_atDigit_18 (v := 1) rfl ?_
      refine r_goto dX5_atDigit_19 (tgt := 23) rfl ?_
      exact r_zreturn1 rfl dX5_atDigit_23
theorem okX5_atDigit (u : US) : ∀ r, fX5_atDigit u = some r → MetC mX5_atDigit 1 [.ref 2] u (tI r) :=
  met_of (by decide +kernel) (Nat.le_of_ble_eq_true rfl) rfl (sX5_atDigit u)
def fX6_readNumber_34 (v0 : Nat) (v2 : Int32) (u : US) : Option (US) :=
  oV (fX6_emit v0 (1000 + v2) u) fun u1 => some u1
set_option maxRecDepth 20000 in
theorem sX6_readNumber_34 (v0 : Nat) (h0 : isRul v0 = true) (v2 : Int32) (u : US) : Sim tV mX6_readNumber 3 (fX6_readNumber_34 v0 v2 u) 34 [some (.ref v0), some (.ref 2), some (.int v2), none] [] u := by
  unfold fX6_readNumber_34
  refine r_aload_n dX6_readNumber_34 rfl ?_
  refine r_sipush dX6_readNumber_35 (v := 1000) rfl ?_
  refine r_iload_n dX6_readNumber_38 rfl ?_
  refine r_iadd dX6_readNumber_39 ?_
  refine c_VV (As := [.int (1000 + v2)]) kvX6_39 (okO_rul h0) (by decide) (okX6_emit v0 (1000 + v2) u) rfl (Nat.le_of_ble_eq_true rfl) rfl dX6_readNumber_40 (fun u1 => ?_)
  exact r_return rfl dX6_readNumber_43
def fX6_readNumber_4 (v0 : Nat) : Nat → Int32 → Int32 → US → Option (US)
  | 0, _, _, _ => none
  | n + 1, v2, v3, u => (if (3 : Int32) ≤ v3 then fX6_readNumber_34 v0 v2 u else oB (fX5_atDigit u) fun r1 u1 => (if r1 = 0 then fX6_readNumber_34 v0 v2 u1 else oB (fX5_digit 10 u1) fun r2 u2 => fX6_readNumber_4 v0 n ((v2 * 10) + r2) (v3 + 1) u2))
set_option maxRecDepth 20000 in
theorem sX6_readNumber_4 (v0 : Nat) (h0 : isRul v0 = true) : ∀ (n : Nat) (v2 : Int32) (v3 : Int32) (u : US), Sim tV mX6_readNumber 3 (fX6_readNumber_4 v0 n v2 v3 u) 4 [some (.ref v0), some (.ref 2), some (.int v2), some (.int v3)] [] u := by
  intro n
  induction n with
  | zero =>
    intro v2 v3 u
    rw [fX6_readNumber_4.eq_1]
    exact r_none
  | succ n ih =>
    intro v2 v3 u
    rw [fX6_readNumber_4.eq_2]
    refine r_iload_n dX6_readNumber_4 rfl ?_
    refine r_iconst dX6_readNumber_5 (v := 3) rfl ?_
    refine r_icmp_ge dX6_readNumber_6 (tgt := 34) rfl ?_ ?_
    · refine r_mk [true, true, true, false] (ls2 := [some (.ref v0), some (.ref 2), some (.int v2), none]) rfl ?_
      exact sX6_readNumber_34 v0 h0 v2 u
    · refine r_aload_n dX6_readNumber_9 rfl ?_
      refine c_VI (As := []) kvX6_56 rfl (by decide) (okX5_atDigit u) rfl (Nat.le_of_ble_eq_true rfl) rfl dX6_readNumber_10 (fun r1 u1 => ?_)
      refine r_if_eq dX6_readNumber_13 (tgt := 34) rfl ?_ ?_
      · refine r_mk [true, true, true, false] (ls2 := [some (.ref v0), some (.ref 2), some (.int v2), none]) rfl ?_
        exact sX6_readNumber_34 v0 h0 v2 u1
      · refine r_iload_n dX6_readNumber_16 rfl ?_
        refine r_bipush dX6_readNumber_17 (v := 10) rfl ?_
        refine r_imul dX6_readNumber_19 ?_
        refine r_aload_n dX6_readNumber_20 rfl ?_
        refine r_bipush dX6_readNumber_21 (v := 10) rfl ?_
        refine c_VI (As := [.int 10]) kvX6_67 rfl (by decide) (okX5_digit 10 u1) rfl (Nat.le_of_ble_eq_true rfl) rfl dX6_readNumber_23 (fun r2 u2 => ?_)
        refine r_iadd dX6_readNumber_26 ?_
        refine r_istore_n dX6_readNumber_27 (Nat.le_of_ble_eq_true rfl) (ls2 := [some (.ref v0), some (.ref 2), some (.int ((v2 * 10) + r2)), some (.int v3)]) rfl ?_
        refine r_iinc dX6_readNumber_28 (Nat.le_of_ble_eq_true rfl) rfl (v := v3 + 1) rfl (ls2 := [some (.ref v0), some (.ref 2), some (.int ((v2 * 10) + r2)), some (.int (v3 + 1))]) rfl ?_
        refine r_goto dX6_readNumber_31 (tgt := 4) rfl ?_
        exact ih ((v2 * 10) + r2) (v3 + 1) u2
def fX6_readNumber (v0 : Nat) (u : US) : Option (US) :=
  gd (isRul v0) (fX6_readNumber_4 v0 FU 0 0 u)
set_option maxRecDepth 20000 in
theorem sX6_readNumber (v0 : Nat) (u : US) : Sim tV mX6_readNumber 3 (fX6_readNumber v0 u) 0 [some (.ref v0), some (.ref 2), none, none] [] u := by
  unfold fX6_readNumber
  refine r_gd (fun h0 => ?_)
  refine r_iconst dX6_readNumber_0 (v := 0) rfl ?_
  refine r_istore_n dX6_readNumber_1 (Nat.le_of_ble_eq_true rfl) (ls2 := [some (.ref v0), some (.ref 2), some (.int 0), none]) rfl ?_
  refine r_iconst dX6_readNumber_2 (v := 0) rfl ?_
  refine r_istore_n dX6_readNumber_3 (Nat.le_of_ble_eq_true rfl) (ls2 := [some (.ref v0), some (.ref 2), some (.int 0), some (.int 0)]) rfl ?_
  exact sX6_readNumber_4 v0 h0 FU 0 0 u
theorem okX6_readNumber (v0 : Nat) (u : US) : ∀ r, fX6_readNumber v0 u = some r → MetC mX6_readNumber 3 [.ref v0, .ref 2] u (tV r) :=
  met_of (by decide +kernel) (Nat.le_of_ble_eq_true rfl) rfl (sX6_readNumber v0 u)
def fX6_readOperand_22 (gX6_readComparison : Nat → Int32 → US → Option (US)) (v0 : Nat) (v2 : Int32) (s1 : Int32) (u : US) : Option (US) :=
  oB (fX5_demand s1 u) fun r1 u1 => (if r1 = 0 then some u1 else oB (fX5_passes 40 u1) fun r2 u2 => oV (gX6_readComparison v0 (v2 + 1) u2) fun u3 => oB (fX5_passes 41 u3) fun r4 u4 => oB (fX5_demand r4 u4) fun r5 u5 => some u5)
set_option maxRecDepth 20000 in
theorem sX6_readOperand_22 {dd : Nat} (gX6_readComparison : Nat → Int32 → US → Option (US)) (hgX6_readComparison : ∀ (v0 : Nat) (v2 : Int32) (u : US), ∀ r, gX6_readComparison v0 v2 u = some r → MetC mX6_readComparison dd [.ref v0, .ref 2, .int v2] u (tV r)) (hD : 3 ≤ dd) (v0 : Nat) (v2 : Int32) (h0 : isRul v0 = true) (s1 : Int32) (u : US) : Sim tV mX6_readOperand (dd + 1) (fX6_readOperand_22 gX6_readComparison v0 v2 s1 u) 22 [some (.ref v0), some (.ref 2), some (.int v2), none] [.int s1, .ref 2] u := by
  unfold fX6_readOperand_22
  refine c_VI (As := [.int s1]) kvX6_52 rfl (by omega) (okX5_demand s1 u) rfl (Nat.le_of_ble_eq_true rfl) rfl dX6_readOperand_22 (fun r1 u1 => ?_)
  refine r_if_eq dX6_readOperand_25 (tgt := 94) rfl ?_ ?_
  · exact r_return rfl dX6_readOperand_94
  · refine r_aload_n dX6_readOperand_28 rfl ?_
    refine r_bipush dX6_readOperand_29 (v := 40) rfl ?_
    refine c_VI (As := [.int 40]) kvX6_35 rfl (by omega) (okX5_passes 40 u1) rfl (Nat.le_of_ble_eq_true rfl) rfl dX6_readOperand_31 (fun r2 u2 => ?_)
    refine r_pop dX6_readOperand_34 rfl ?_
    refine r_aload_n dX6_readOperand_35 rfl ?_
    refine r_aload_n dX6_readOperand_36 rfl ?_
    refine r_iload_n dX6_readOperand_37 rfl ?_
    refine r_iconst dX6_readOperand_38 (v := 1) rfl ?_
    refine r_iadd dX6_readOperand_39 ?_
    refine c_VV (As := [.ref 2, .int (v2 + 1)]) kvX6_22 (okO_rul h0) (by omega) (hgX6_readComparison v0 (v2 + 1) u2) rfl (Nat.le_of_ble_eq_true rfl) rfl dX6_readOperand_40 (fun u3 => ?_)
    refine r_aload_n dX6_readOperand_43 rfl ?_
    refine r_aload_n dX6_readOperand_44 rfl ?_
    refine r_bipush dX6_readOperand_45 (v := 41) rfl ?_
    refine c_VI (As := [.int 41]) kvX6_35 rfl (by omega) (okX5_passes 41 u3) rfl (Nat.le_of_ble_eq_true rfl) rfl dX6_readOperand_47 (fun r4 u4 => ?_)
    refine c_VI (As := [.int r4]) kvX6_52 rfl (by omega) (okX5_demand r4 u4) rfl (Nat.le_of_ble_eq_true rfl) rfl dX6_readOperand_50 (fun r5 u5 => ?_)
    refine r_pop dX6_readOperand_53 rfl ?_
    refine r_goto dX6_readOperand_54 (tgt := 94) rfl ?_
    exact r_return rfl dX6_readOperand_94
def GX6_readOperand (gX6_readComparison : Nat → Int32 → US → Option (US)) (v0 : Nat) (v2 : Int32) (u : US) : Option (US) :=
  gd (isRul v0) (oB (fX5_peek u) fun r1 u1 => (if r1 = 40 then (if (4 : Int32) ≤ v2 then fX6_readOperand_22 gX6_readComparison v0 v2 0 u1 else fX6_readOperand_22 gX6_readComparison v0 v2 1 u1) else oB (fX5_atDigit u1) fun r2 u2 => (if r2 = 0 then oB (fX6_isName r1 u2) fun r3 u3 => oB (fX5_demand r3 u3) fun r4 u4 => (if r4 = 0 then some u4 else oB (fX5_passes r1 u4) fun r5 u5 => oV (fX6_emit v0 r1 u5) fun u6 => some u6) else oV (fX6_readNumber v0 u2) fun u7 => some u7)))
set_option maxRecDepth 20000 in
theorem sX6_readOperand {dd : Nat} (gX6_readComparison : Nat → Int32 → US → Option (US)) (hgX6_readComparison : ∀ (v0 : Nat) (v2 : Int32) (u : US), ∀ r, gX6_readComparison v0 v2 u = some r → MetC mX6_readComparison dd [.ref v0, .ref 2, .int v2] u (tV r)) (hD : 3 ≤ dd) (v0 : Nat) (v2 : Int32) (u : US) : Sim tV mX6_readOperand (dd + 1) (GX6_readOperand gX6_readComparison v0 v2 u) 0 [some (.ref v0), some (.ref 2), some (.int v2), none] [] u := by
  unfold GX6_readOperand
  refine r_gd (fun h0 => ?_)
  refine r_aload_n dX6_readOperand_0 rfl ?_
  refine c_VI (As := []) kvX6_29 rfl (by omega) (okX5_peek u) rfl (Nat.le_of_ble_eq_true rfl) rfl dX6_readOperand_1 (fun r1 u1 => ?_)
  refine r_istore_n dX6_readOperand_4 (Nat.le_of_ble_eq_true rfl) (ls2 := [some (.ref v0), some (.ref 2), some (.int v2), some (.int r1)]) rfl ?_
  refine r_iload_n dX6_readOperand_5 rfl ?_
  refine r_bipush dX6_readOperand_6 (v := 40) rfl ?_
  refine r_icmp_ne dX6_readOperand_8 (tgt := 57) rfl ?_ ?_
  · refine r_aload_n dX6_readOperand_57 rfl ?_
    refine c_VI (As := []) kvX6_56 rfl (by omega) (okX5_atDigit u1) rfl (Nat.le_of_ble_eq_true rfl) rfl dX6_readOperand_58 (fun r2 u2 => ?_)
    refine r_if_eq dX6_readOperand_61 (tgt := 72) rfl ?_ ?_
    · refine r_aload_n dX6_readOperand_72 rfl ?_
      refine r_iload_n dX6_readOperand_73 rfl ?_
      refine c_SI (As := [.int r1]) ksX6_64 (by omega) (okX6_isName r1 u2) rfl (Nat.le_of_ble_eq_true rfl) rfl dX6_readOperand_74 (fun r3 u3 => ?_)
      refine c_VI (As := [.int r3]) kvX6_52 rfl (by omega) (okX5_demand r3 u3) rfl (Nat.le_of_ble_eq_true rfl) rfl dX6_readOperand_77 (fun r4 u4 => ?_)
      refine r_if_eq dX6_readOperand_80 (tgt := 94) rfl ?_ ?_
      · exact r_return rfl dX6_readOperand_94
      · refine r_aload_n dX6_readOperand_83 rfl ?_
        refine r_iload_n dX6_readOperand_84 rfl ?_
        refine c_VI (As := [.int r1]) kvX6_35 rfl (by omega) (okX5_passes r1 u4) rfl (Nat.le_of_ble_eq_true rfl) rfl dX6_readOperand_85 (fun r5 u5 => ?_)
        refine r_pop dX6_readOperand_88 rfl ?_
        refine r_aload_n dX6_readOperand_89 rfl ?_
        refine r_iload_n dX6_readOperand_90 rfl ?_
        refine c_VV (As := [.int r1]) kvX6_39 (okO_rul h0) (by omega) (okX6_emit v0 r1 u5) rfl (Nat.le_of_ble_eq_true rfl) rfl dX6_readOperand_91 (fun u6 => ?_)
        exact r_return rfl dX6_readOperand_94
    · refine r_aload_n dX6_readOperand_64 rfl ?_
      refine r_aload_n dX6_readOperand_65 rfl ?_
      refine c_VV (As := [.ref 2]) kvX6_60 (okO_rul h0) (by omega) (okX6_readNumber v0 u2) rfl (Nat.le_of_ble_eq_true rfl) rfl dX6_readOperand_66 (fun u7 => ?_)
      refine r_goto dX6_readOperand_69 (tgt := 94) rfl ?_
      exact r_return rfl dX6_readOperand_94
  · refine r_aload_n dX6_readOperand_11 rfl ?_
    refine r_iload_n dX6_readOperand_12 rfl ?_
    refine r_iconst dX6_readOperand_13 (v := 4) rfl ?_
    refine r_icmp_ge dX6_readOperand_14 (tgt := 21) rfl ?_ ?_
    · refine r_iconst dX6_readOperand_21 (v := 0) rfl ?_
      refine r_mk [true, true, true, false] (ls2 := [some (.ref v0), some (.ref 2), some (.int v2), none]) rfl ?_
      exact sX6_readOperand_22 gX6_readComparison hgX6_readComparison hD v0 v2 h0 0 u1
    · refine r_iconst dX6_readOperand_17 (v := 1) rfl ?_
      refine r_goto dX6_readOperand_18 (tgt := 22) rfl ?_
      refine r_mk [true, true, true, false] (ls2 := [some (.ref v0), some (.ref 2), some (.int v2), none]) rfl ?_
      exact sX6_readOperand_22 gX6_readComparison hgX6_readComparison hD v0 v2 h0 1 u1
theorem okX6_readOperand {dd : Nat} (gX6_readComparison : Nat → Int32 → US → Option (US)) (hgX6_readComparison : ∀ (v0 : Nat) (v2 : Int32) (u : US), ∀ r, gX6_readComparison v0 v2 u = some r → MetC mX6_readComparison dd [.ref v0, .ref 2, .int v2] u (tV r)) (hD : 3 ≤ dd) (v0 : Nat) (v2 : Int32) (u : US) : ∀ r, GX6_readOperand gX6_readComparison v0 v2 u = some r → MetC mX6_readOperand (dd + 1) [.ref v0, .ref 2, .int v2] u (tV r) :=
  met_of (by decide +kernel) (Nat.le_of_ble_eq_true rfl) rfl (sX6_readOperand gX6_readComparison hgX6_readComparison hD v0 v2 u)
def fX6_readNegated_37 (gX6_readComparison : Nat → Int32 → US → Option (US)) (v0 : Nat) (v2 : Int32) (v3 : Int32) (u : US) : Option (US) :=
  oV (GX6_readOperand gX6_readComparison v0 v2 u) fun u1 => (if v3 = 0 then some u1 else oV (fX6_emit v0 126 u1) fun u2 => some u2)
set_option maxRecDepth 20000 in
theorem sX6_readNegated_37 {dd : Nat} (gX6_readComparison : Nat → Int32 → US → Option (US)) (hgX6_readComparison : ∀ (v0 : Nat) (v2 : Int32) (u : US), ∀ r, gX6_readComparison v0 v2 u = some r → MetC mX6_readComparison dd [.ref v0, .ref 2, .int v2] u (tV r)) (hD : 3 ≤ dd) (v0 : Nat) (v2 : Int32) (h0 : isRul v0 = true) (v3 : Int32) (u : US) : Sim tV mX6_readNegated (dd + 2) (fX6_readNegated_37 gX6_readComparison v0 v2 v3 u) 37 [some (.ref v0), some (.ref 2), some (.int v2), some (.int v3), none] [] u := by
  unfold fX6_readNegated_37
  refine r_aload_n dX6_readNegated_37 rfl ?_
  refine r_aload_n dX6_readNegated_38 rfl ?_
  refine r_iload_n dX6_readNegated_39 rfl ?_
  refine c_VV (As := [.ref 2, .int v2]) kvX6_49 (okO_rul h0) (by omega) (okX6_readOperand gX6_readComparison hgX6_readComparison hD v0 v2 u) rfl (Nat.le_of_ble_eq_true rfl) rfl dX6_readNegated_40 (fun u1 => ?_)
  refine r_iload_n dX6_readNegated_43 rfl ?_
  refine r_if_eq dX6_readNegated_44 (tgt := 53) rfl ?_ ?_
  · exact r_return rfl dX6_readNegated_53
  · refine r_aload_n dX6_readNegated_47 rfl ?_
    refine r_bipush dX6_readNegated_48 (v := 126) rfl ?_
    refine c_VV (As := [.int 126]) kvX6_39 (okO_rul h0) (by omega) (okX6_emit v0 126 u1) rfl (Nat.le_of_ble_eq_true rfl) rfl dX6_readNegated_50 (fun u2 => ?_)
    exact r_return rfl dX6_readNegated_53
def fX6_readNegated_5 (gX6_readComparison : Nat → Int32 → US → Option (US)) (v0 : Nat) (v2 : Int32) : Nat → Int32 → Int32 → US → Option (US)
  | 0, _, _, _ => none
  | n + 1, v3, v4, u => (if (40 : Int32) ≤ v4 then fX6_readNegated_37 gX6_readComparison v0 v2 v3 u else oB (fX5_passes 45 u) fun r1 u1 => (if r1 = 0 then fX6_readNegated_37 gX6_readComparison v0 v2 v3 u1 else (if v3 = 0 then fX6_readNegated_5 gX6_readComparison v0 v2 n 1 (v4 + 1) u1 else fX6_readNegated_5 gX6_readComparison v0 v2 n 0 (v4 + 1) u1)))
set_option maxRecDepth 20000 in
theorem sX6_readNegated_5 {dd : Nat} (gX6_readComparison : Nat → Int32 → US → Option (US)) (hgX6_readComparison : ∀ (v0 : Nat) (v2 : Int32) (u : US), ∀ r, gX6_readComparison v0 v2 u = some r → MetC mX6_readComparison dd [.ref v0, .ref 2, .int v2] u (tV r)) (hD : 3 ≤ dd) (v0 : Nat) (v2 : Int32) (h0 : isRul v0 = true) : ∀ (n : Nat) (v3 : Int32) (v4 : Int32) (u : US), Sim tV mX6_readNegated (dd + 2) (fX6_readNegated_5 gX6_readComparison v0 v2 n v3 v4 u) 5 [some (.ref v0), some (.ref 2), some (.int v2), some (.int v3), some (.int v4)] [] u := by
  intro n
  induction n with
  | zero =>
    intro v3 v4 u
    rw [fX6_readNegated_5.eq_1]
    exact r_none
  | succ n ih =>
    intro v3 v4 u
    rw [fX6_readNegated_5.eq_2]
    refine r_iload dX6_readNegated_5 rfl ?_
    refine r_bipush dX6_readNegated_7 (v := 40) rfl ?_
    refine r_icmp_ge dX6_readNegated_9 (tgt := 37) rfl ?_ ?_
    · refine r_mk [true, true, true, true, false] (ls2 := [some (.ref v0), some (.ref 2), some (.int v2), some (.int v3), none]) rfl ?_
      exact sX6_readNegated_37 gX6_readComparison hgX6_readComparison hD v0 v2 h0 v3 u
    · refine r_aload_n dX6_readNegated_12 rfl ?_
      refine r_bipush dX6_readNegated_13 (v := 45) rfl ?_
      refine c_VI (As := [.int 45]) kvX6_35 rfl (by omega) (okX5_passes 45 u) rfl (Nat.le_of_ble_eq_true rfl) rfl dX6_readNegated_15 (fun r1 u1 => ?_)
      refine r_if_eq dX6_readNegated_18 (tgt := 37) rfl ?_ ?_
      · refine r_mk [true, true, true, true, false] (ls2 := [some (.ref v0), some (.ref 2), some (.int v2), some (.int v3), none]) rfl ?_
        exact sX6_readNegated_37 gX6_readComparison hgX6_readComparison hD v0 v2 h0 v3 u1
      · refine r_iload_n dX6_readNegated_21 rfl ?_
        refine r_if_ne dX6_readNegated_22 (tgt := 29) rfl ?_ ?_
        · refine r_iconst dX6_readNegated_29 (v := 0) rfl ?_
          refine r_istore_n dX6_readNegated_30 (Nat.le_of_ble_eq_true rfl) (ls2 := [some (.ref v0), some (.ref 2), some (.int v2), some (.int 0), some (.int v4)]) rfl ?_
          refine r_iinc dX6_readNegated_31 (Nat.le_of_ble_eq_true rfl) rfl (v := v4 + 1) rfl (ls2 := [some (.ref v0), some (.ref 2), some (.int v2), some (.int 0), some (.int (v4 + 1))]) rfl ?_
          refine r_goto dX6_readNegated_34 (tgt := 5) rfl ?_
          exact ih 0 (v4 + 1) u1
        · refine r_iconst dX6_readNegated_25 (v := 1) rfl ?_
          refine r_goto dX6_readNegated_26 (tgt := 30) rfl ?_
          refine r_istore_n dX6_readNegated_30 (Nat.le_of_ble_eq_true rfl) (ls2 := [some (.ref v0), some (.ref 2), some (.int v2), some (.int 1), some (.int v4)]) rfl ?_
          refine r_iinc dX6_readNegated_31 (Nat.le_of_ble_eq_true rfl) rfl (v := v4 + 1) rfl (ls2 := [some (.ref v0), some (.ref 2), some (.int v2), some (.int 1), some (.int (v4 + 1))]) rfl ?_
          refine r_goto dX6_readNegated_34 (tgt := 5) rfl ?_
          exact ih 1 (v4 + 1) u1
def GX6_readNegated (gX6_readComparison : Nat → Int32 → US → Option (US)) (v0 : Nat) (v2 : Int32) (u : US) : Option (US) :=
  gd (isRul v0) (fX6_readNegated_5 gX6_readComparison v0 v2 FU 0 0 u)
set_option maxRecDepth 20000 in
theorem sX6_readNegated {dd : Nat} (gX6_readComparison : Nat → Int32 → US → Option (US)) (hgX6_readComparison : ∀ (v0 : Nat) (v2 : Int32) (u : US), ∀ r, gX6_readComparison v0 v2 u = some r → MetC mX6_readComparison dd [.ref v0, .ref 2, .int v2] u (tV r)) (hD : 3 ≤ dd) (v0 : Nat) (v2 : Int32) (u : US) : Sim tV mX6_readNegated (dd + 2) (GX6_readNegated gX6_readComparison v0 v2 u) 0 [some (.ref v0), some (.ref 2), some (.int v2), none, none] [] u := by
  unfold GX6_readNegated
  refine r_gd (fun h0 => ?_)
  refine r_iconst dX6_readNegated_0 (v := 0) rfl ?_
  refine r_istore_n dX6_readNegated_1 (Nat.le_of_ble_eq_true rfl) (ls2 := [some (.ref v0), some (.ref 2), some (.int v2), some (.int 0), none]) rfl ?_
  refine r_iconst dX6_readNegated_2 (v := 0) rfl ?_
  refine r_istore dX6_readNegated_3 (Nat.le_of_ble_eq_true rfl) (ls2 := [some (.ref v0), some (.ref 2), some (.int v2), some (.int 0), some (.int 0)]) rfl ?_
  exact sX6_readNegated_5 gX6_readComparison hgX6_readComparison hD v0 v2 h0 FU 0 0 u
theorem okX6_readNegated {dd : Nat} (gX6_readComparison : Nat → Int32 → US → Option (US)) (hgX6_readComparison : ∀ (v0 : Nat) (v2 : Int32) (u : US), ∀ r, gX6_readComparison v0 v2 u = some r → MetC mX6_readComparison dd [.ref v0, .ref 2, .int v2] u (tV r)) (hD : 3 ≤ dd) (v0 : Nat) (v2 : Int32) (u : US) : ∀ r, GX6_readNegated gX6_readComparison v0 v2 u = some r → MetC mX6_readNegated (dd + 2) [.ref v0, .ref 2, .int v2] u (tV r) :=
  met_of (by decide +kernel) (Nat.le_of_ble_eq_true rfl) rfl (sX6_readNegated gX6_readComparison hgX6_readComparison hD v0 v2 u)
def fX6_readProduct_35 (gX6_readComparison : Nat → Int32 → US → Option (US)) (v0 : Nat) (v2 : Int32) (k8 : Int32 → US → Option (US)) (v3 : Int32) (v4 : Int32) (u : US) : Option (US) :=
  oB (fX5_passes v4 u) fun r1 u1 => oV (GX6_readNegated gX6_readComparison v0 v2 u1) fun u2 => oV (fX6_emit v0 v4 u2) fun u3 => k8 (v3 + 1) u3
set_option maxRecDepth 20000 in
theorem sX6_readProduct_35 {dd : Nat} (gX6_readComparison : Nat → Int32 → US → Option (US)) (hgX6_readComparison : ∀ (v0 : Nat) (v2 : Int32) (u : US), ∀ r, gX6_readComparison v0 v2 u = some r → MetC mX6_readComparison dd [.ref v0, .ref 2, .int v2] u (tV r)) (hD : 3 ≤ dd) (v0 : Nat) (v2 : Int32) (h0 : isRul v0 = true) (k8 : Int32 → US → Option (US)) (hk8 : ∀ (v3 : Int32) (u : US), Sim tV mX6_readProduct (dd + 3) (k8 v3 u) 8 [some (.ref v0), some (.ref 2), some (.int v2), some (.int v3), none] [] u) (v3 : Int32) (v4 : Int32) (u : US) : Sim tV mX6_readProduct (dd + 3) (fX6_readProduct_35 gX6_readComparison v0 v2 k8 v3 v4 u) 35 [some (.ref v0), some (.ref 2), some (.int v2), some (.int v3), some (.int v4)] [] u := by
  unfold fX6_readProduct_35
  refine r_aload_n dX6_readProduct_35 rfl ?_
  refine r_iload dX6_readProduct_36 rfl ?_
  refine c_VI (As := [.int v4]) kvX6_35 rfl (by omega) (okX5_passes v4 u) rfl (Nat.le_of_ble_eq_true rfl) rfl dX6_readProduct_38 (fun r1 u1 => ?_)
  refine r_pop dX6_readProduct_41 rfl ?_
  refine r_aload_n dX6_readProduct_42 rfl ?_
  refine r_aload_n dX6_readProduct_43 rfl ?_
  refine r_iload_n dX6_readProduct_44 rfl ?_
  refine c_VV (As := [.ref 2, .int v2]) kvX6_46 (okO_rul h0) (by omega) (okX6_readNegated gX6_readComparison hgX6_readComparison hD v0 v2 u1) rfl (Nat.le_of_ble_eq_true rfl) rfl dX6_readProduct_45 (fun u2 => ?_)
  refine r_aload_n dX6_readProduct_48 rfl ?_
  refine r_iload dX6_readProduct_49 rfl ?_
  refine c_VV (As := [.int v4]) kvX6_39 (okO_rul h0) (by omega) (okX6_emit v0 v4 u2) rfl (Nat.le_of_ble_eq_true rfl) rfl dX6_readProduct_51 (fun u3 => ?_)
  refine r_iinc dX6_readProduct_54 (Nat.le_of_ble_eq_true rfl) rfl (v := v3 + 1) rfl (ls2 := [some (.ref v0), some (.ref 2), some (.int v2), some (.int (v3 + 1)), some (.int v4)]) rfl ?_
  refine r_goto dX6_readProduct_57 (tgt := 8) rfl ?_
  refine r_mk [true, true, true, true, false] (ls2 := [some (.ref v0), some (.ref 2), some (.int v2), some (.int (v3 + 1)), none]) rfl ?_
  exact hk8 (v3 + 1) u3
def fX6_readProduct_8 (gX6_readComparison : Nat → Int32 → US → Option (US)) (v0 : Nat) (v2 : Int32) : Nat → Int32 → US → Option (US)
  | 0, _, _ => none
  | n + 1, v3, u => (if (40 : Int32) ≤ v3 then some u else oB (fX5_peek u) fun r1 u1 => (if r1 = 42 then fX6_readProduct_35 gX6_readComparison v0 v2 (fX6_readProduct_8 gX6_readComparison v0 v2 n) v3 r1 u1 else (if r1 = 47 then fX6_readProduct_35 gX6_readComparison v0 v2 (fX6_readProduct_8 gX6_readComparison v0 v2 n) v3 r1 u1 else some u1)))
set_option maxRecDepth 20000 in
theorem sX6_readProduct_8 {dd : Nat} (gX6_readComparison : Nat → Int32 → US → Option (US)) (hgX6_readComparison : ∀ (v0 : Nat) (v2 : Int32) (u : US), ∀ r, gX6_readComparison v0 v2 u = some r → MetC mX6_readComparison dd [.ref v0, .ref 2, .int v2] u (tV r)) (hD : 3 ≤ dd) (v0 : Nat) (v2 : Int32) (h0 : isRul v0 = true) : ∀ (n : Nat) (v3 : Int32) (u : US), Sim tV mX6_readProduct (dd + 3) (fX6_readProduct_8 gX6_readComparison v0 v2 n v3 u) 8 [some (.ref v0), some (.ref 2), some (.int v2), some (.int v3), none] [] u := by
  intro n
  induction n with
  | zero =>
    intro v3 u
    rw [fX6_readProduct_8.eq_1]
    exact r_none
  | succ n ih =>
    intro v3 u
    rw [fX6_readProduct_8.eq_2]
    refine r_iload_n dX6_readProduct_8 rfl ?_
    refine r_bipush dX6_readProduct_9 (v := 40) rfl ?_
    refine r_icmp_ge dX6_readProduct_11 (tgt := 60) rfl ?_ ?_
    · exact r_return rfl dX6_readProduct_60
    · refine r_aload_n dX6_readProduct_14 rfl ?_
      refine c_VI (As := []) kvX6_29 rfl (by omega) (okX5_peek u) rfl (Nat.le_of_ble_eq_true rfl) rfl dX6_readProduct_15 (fun r1 u1 => ?_)
      refine r_istore dX6_readProduct_18 (Nat.le_of_ble_eq_true rfl) (ls2 := [some (.ref v0), some (.ref 2), some (.int v2), some (.int v3), some (.int r1)]) rfl ?_
      refine r_iload dX6_readProduct_20 rfl ?_
      refine r_bipush dX6_readProduct_22 (v := 42) rfl ?_
      refine r_icmp_eq dX6_readProduct_24 (tgt := 35) rfl ?_ ?_
      · exact sX6_readProduct_35 gX6_readComparison hgX6_readComparison hD v0 v2 h0 (fX6_readProduct_8 gX6_readComparison v0 v2 n) ih v3 r1 u1
      · refine r_iload dX6_readProduct_27 rfl ?_
        refine r_bipush dX6_readProduct_29 (v := 47) rfl ?_
        refine r_icmp_eq dX6_readProduct_31 (tgt := 35) rfl ?_ ?_
        · exact sX6_readProduct_35 gX6_readComparison hgX6_readComparison hD v0 v2 h0 (fX6_readProduct_8 gX6_readComparison v0 v2 n) ih v3 r1 u1
        · exact r_return rfl dX6_readProduct_34
def GX6_readProduct (gX6_readComparison : Nat → Int32 → US → Option (US)) (v0 : Nat) (v2 : Int32) (u : US) : Option (US) :=
  gd (isRul v0) (oV (GX6_readNegated gX6_readComparison v0 v2 u) fun u1 => fX6_readProduct_8 gX6_readComparison v0 v2 FU 0 u1)
set_option maxRecDepth 20000 in
theorem sX6_readProduct {dd : Nat} (gX6_readComparison : Nat → Int32 → US → Option (US)) (hgX6_readComparison : ∀ (v0 : Nat) (v2 : Int32) (u : US), ∀ r, gX6_readComparison v0 v2 u = some r → MetC mX6_readComparison dd [.ref v0, .ref 2, .int v2] u (tV r)) (hD : 3 ≤ dd) (v0 : Nat) (v2 : Int32) (u : US) : Sim tV mX6_readProduct (dd + 3) (GX6_readProduct gX6_readComparison v0 v2 u) 0 [some (.ref v0), some (.ref 2), some (.int v2), none, none] [] u := by
  unfold GX6_readProduct
  refine r_gd (fun h0 => ?_)
  refine r_aload_n dX6_readProduct_0 rfl ?_
  refine r_aload_n dX6_readProduct_1 rfl ?_
  refine r_iload_n dX6_readProduct_2 rfl ?_
  refine c_VV (As := [.ref 2, .int v2]) kvX6_46 (okO_rul h0) (by omega) (okX6_readNegated gX6_readComparison hgX6_readComparison hD v0 v2 u) rfl (Nat.le_of_ble_eq_true rfl) rfl dX6_readProduct_3 (fun u1 => ?_)
  refine r_iconst dX6_readProduct_6 (v := 0) rfl ?_
  refine r_istore_n dX6_readProduct_7 (Nat.le_of_ble_eq_true rfl) (ls2 := [some (.ref v0), some (.ref 2), some (.int v2), some (.int 0), none]) rfl ?_
  exact sX6_readProduct_8 gX6_readComparison hgX6_readComparison hD v0 v2 h0 FU 0 u1
theorem okX6_readProduct {dd : Nat} (gX6_readComparison : Nat → Int32 → US → Option (US)) (hgX6_readComparison : ∀ (v0 : Nat) (v2 : Int32) (u : US), ∀ r, gX6_readComparison v0 v2 u = some r → MetC mX6_readComparison dd [.ref v0, .ref 2, .int v2] u (tV r)) (hD : 3 ≤ dd) (v0 : Nat) (v2 : Int32) (u : US) : ∀ r, GX6_readProduct gX6_readComparison v0 v2 u = some r → MetC mX6_readProduct (dd + 3) [.ref v0, .ref 2, .int v2] u (tV r) :=
  met_of (by decide +kernel) (Nat.le_of_ble_eq_true rfl) rfl (sX6_readProduct gX6_readComparison hgX6_readComparison hD v0 v2 u)
def fX6_readSum_35 (gX6_readComparison : Nat → Int32 → US → Option (US)) (v0 : Nat) (v2 : Int32) (k8 : Int32 → US → Option (US)) (v3 : Int32) (v4 : Int32) (u : US) : Option (US) :=
  oB (fX5_passes v4 u) fun r1 u1 => oV (GX6_readProduct gX6_readComparison v0 v2 u1) fun u2 => oV (fX6_emit v0 v4 u2) fun u3 => k8 (v3 + 1) u3
set_option maxRecDepth 20000 in
theorem sX6_readSum_35 {dd : Nat} (gX6_readComparison : Nat → Int32 → US → Option (US)) (hgX6_readComparison : ∀ (v0 : Nat) (v2 : Int32) (u : US), ∀ r, gX6_readComparison v0 v2 u = some r → MetC mX6_readComparison dd [.ref v0, .ref 2, .int v2] u (tV r)) (hD : 3 ≤ dd) (v0 : Nat) (v2 : Int32) (h0 : isRul v0 = true) (k8 : Int32 → US → Option (US)) (hk8 : ∀ (v3 : Int32) (u : US), Sim tV mX6_readSum (dd + 4) (k8 v3 u) 8 [some (.ref v0), some (.ref 2), some (.int v2), some (.int v3), none] [] u) (v3 : Int32) (v4 : Int32) (u : US) : Sim tV mX6_readSum (dd + 4) (fX6_readSum_35 gX6_readComparison v0 v2 k8 v3 v4 u) 35 [some (.ref v0), some (.ref 2), some (.int v2), some (.int v3), some (.int v4)] [] u := by
  unfold fX6_readSum_35
  refine r_aload_n dX6_readSum_35 rfl ?_
  refine r_iload dX6_readSum_36 rfl ?_
  refine c_VI (As := [.int v4]) kvX6_35 rfl (by omega) (okX5_passes v4 u) rfl (Nat.le_of_ble_eq_true rfl) rfl dX6_readSum_38 (fun r1 u1 => ?_)
  refine r_pop dX6_readSum_41 rfl ?_
  refine r_aload_n dX6_readSum_42 rfl ?_
  refine r_aload_n dX6_readSum_43 rfl ?_
  refine r_iload_n dX6_readSum_44 rfl ?_
  refine c_VV (As := [.ref 2, .int v2]) kvX6_43 (okO_rul h0) (by omega) (okX6_readProduct gX6_readComparison hgX6_readComparison hD v0 v2 u1) rfl (Nat.le_of_ble_eq_true rfl) rfl dX6_readSum_45 (fun u2 => ?_)
  refine r_aload_n dX6_readSum_48 rfl ?_
  refine r_iload dX6_readSum_49 rfl ?_
  refine c_VV (As := [.int v4]) kvX6_39 (okO_rul h0) (by omega) (okX6_emit v0 v4 u2) rfl (Nat.le_of_ble_eq_true rfl) rfl dX6_readSum_51 (fun u3 => ?_)
  refine r_iinc dX6_readSum_54 (Nat.le_of_ble_eq_true rfl) rfl (v := v3 + 1) rfl (ls2 := [some (.ref v0), some (.ref 2), some (.int v2), some (.int (v3 + 1)), some (.int v4)]) rfl ?_
  refine r_goto dX6_readSum_57 (tgt := 8) rfl ?_
  refine r_mk [true, true, true, true, false] (ls2 := [some (.ref v0), some (.ref 2), some (.int v2), some (.int (v3 + 1)), none]) rfl ?_
  exact hk8 (v3 + 1) u3
def fX6_readSum_8 (gX6_readComparison : Nat → Int32 → US → Option (US)) (v0 : Nat) (v2 : Int32) : Nat → Int32 → US → Option (US)
  | 0, _, _ => none
  | n + 1, v3, u => (if (40 : Int32) ≤ v3 then some u else oB (fX5_peek u) fun r1 u1 => (if r1 = 43 then fX6_readSum_35 gX6_readComparison v0 v2 (fX6_readSum_8 gX6_readComparison v0 v2 n) v3 r1 u1 else (if r1 = 45 then fX6_readSum_35 gX6_readComparison v0 v2 (fX6_readSum_8 gX6_readComparison v0 v2 n) v3 r1 u1 else some u1)))
set_option maxRecDepth 20000 in
theorem sX6_readSum_8 {dd : Nat} (gX6_readComparison : Nat → Int32 → US → Option (US)) (hgX6_readComparison : ∀ (v0 : Nat) (v2 : Int32) (u : US), ∀ r, gX6_readComparison v0 v2 u = some r → MetC mX6_readComparison dd [.ref v0, .ref 2, .int v2] u (tV r)) (hD : 3 ≤ dd) (v0 : Nat) (v2 : Int32) (h0 : isRul v0 = true) : ∀ (n : Nat) (v3 : Int32) (u : US), Sim tV mX6_readSum (dd + 4) (fX6_readSum_8 gX6_readComparison v0 v2 n v3 u) 8 [some (.ref v0), some (.ref 2), some (.int v2), some (.int v3), none] [] u := by
  intro n
  induction n with
  | zero =>
    intro v3 u
    rw [fX6_readSum_8.eq_1]
    exact r_none
  | succ n ih =>
    intro v3 u
    rw [fX6_readSum_8.eq_2]
    refine r_iload_n dX6_readSum_8 rfl ?_
    refine r_bipush dX6_readSum_9 (v := 40) rfl ?_
    refine r_icmp_ge dX6_readSum_11 (tgt := 60) rfl ?_ ?_
    · exact r_return rfl dX6_readSum_60
    · refine r_aload_n dX6_readSum_14 rfl ?_
      refine c_VI (As := []) kvX6_29 rfl (by omega) (okX5_peek u) rfl (Nat.le_of_ble_eq_true rfl) rfl dX6_readSum_15 (fun r1 u1 => ?_)
      refine r_istore dX6_readSum_18 (Nat.le_of_ble_eq_true rfl) (ls2 := [some (.ref v0), some (.ref 2), some (.int v2), some (.int v3), some (.int r1)]) rfl ?_
      refine r_iload dX6_readSum_20 rfl ?_
      refine r_bipush dX6_readSum_22 (v := 43) rfl ?_
      refine r_icmp_eq dX6_readSum_24 (tgt := 35) rfl ?_ ?_
      · exact sX6_readSum_35 gX6_readComparison hgX6_readComparison hD v0 v2 h0 (fX6_readSum_8 gX6_readComparison v0 v2 n) ih v3 r1 u1
      · refine r_iload dX6_readSum_27 rfl ?_
        refine r_bipush dX6_readSum_29 (v := 45) rfl ?_
        refine r_icmp_eq dX6_readSum_31 (tgt := 35) rfl ?_ ?_
        · exact sX6_readSum_35 gX6_readComparison hgX6_readComparison hD v0 v2 h0 (fX6_readSum_8 gX6_readComparison v0 v2 n) ih v3 r1 u1
        · exact r_return rfl dX6_readSum_34
def GX6_readSum (gX6_readComparison : Nat → Int32 → US → Option (US)) (v0 : Nat) (v2 : Int32) (u : US) : Option (US) :=
  gd (isRul v0) (oV (GX6_readProduct gX6_readComparison v0 v2 u) fun u1 => fX6_readSum_8 gX6_readComparison v0 v2 FU 0 u1)
set_option maxRecDepth 20000 in
theorem sX6_readSum {dd : Nat} (gX6_readComparison : Nat → Int32 → US → Option (US)) (hgX6_readComparison : ∀ (v0 : Nat) (v2 : Int32) (u : US), ∀ r, gX6_readComparison v0 v2 u = some r → MetC mX6_readComparison dd [.ref v0, .ref 2, .int v2] u (tV r)) (hD : 3 ≤ dd) (v0 : Nat) (v2 : Int32) (u : US) : Sim tV mX6_readSum (dd + 4) (GX6_readSum gX6_readComparison v0 v2 u) 0 [some (.ref v0), some (.ref 2), some (.int v2), none, none] [] u := by
  unfold GX6_readSum
  refine r_gd (fun h0 => ?_)
  refine r_aload_n dX6_readSum_0 rfl ?_
  refine r_aload_n dX6_readSum_1 rfl ?_
  refine r_iload_n dX6_readSum_2 rfl ?_
  refine c_VV (As := [.ref 2, .int v2]) kvX6_43 (okO_rul h0) (by omega) (okX6_readProduct gX6_readComparison hgX6_readComparison hD v0 v2 u) rfl (Nat.le_of_ble_eq_true rfl) rfl dX6_readSum_3 (fun u1 => ?_)
  refine r_iconst dX6_readSum_6 (v := 0) rfl ?_
  refine r_istore_n dX6_readSum_7 (Nat.le_of_ble_eq_true rfl) (ls2 := [some (.ref v0), some (.ref 2), some (.int v2), some (.int 0), none]) rfl ?_
  exact sX6_readSum_8 gX6_readComparison hgX6_readComparison hD v0 v2 h0 FU 0 u1
theorem okX6_readSum {dd : Nat} (gX6_readComparison : Nat → Int32 → US → Option (US)) (hgX6_readComparison : ∀ (v0 : Nat) (v2 : Int32) (u : US), ∀ r, gX6_readComparison v0 v2 u = some r → MetC mX6_readComparison dd [.ref v0, .ref 2, .int v2] u (tV r)) (hD : 3 ≤ dd) (v0 : Nat) (v2 : Int32) (u : US) : ∀ r, GX6_readSum gX6_readComparison v0 v2 u = some r → MetC mX6_readSum (dd + 4) [.ref v0, .ref 2, .int v2] u (tV r) :=
  met_of (by decide +kernel) (Nat.le_of_ble_eq_true rfl) rfl (sX6_readSum gX6_readComparison hgX6_readComparison hD v0 v2 u)
def fX6_readComparison_29 (gX6_readComparison : Nat → Int32 → US → Option (US)) (v0 : Nat) (v2 : Int32) (v3 : Int32) (u : US) : Option (US) :=
  oB (fX5_passes v3 u) fun r1 u1 => oV (GX6_readSum gX6_readComparison v0 v2 u1) fun u2 => oV (fX6_emit v0 v3 u2) fun u3 => some u3
set_option maxRecDepth 20000 in
theorem sX6_readComparison_29 {dd : Nat} (gX6_readComparison : Nat → Int32 → US → Option (US)) (hgX6_readComparison : ∀ (v0 : Nat) (v2 : Int32) (u : US), ∀ r, gX6_readComparison v0 v2 u = some r → MetC mX6_readComparison dd [.ref v0, .ref 2, .int v2] u (tV r)) (hD : 3 ≤ dd) (v0 : Nat) (v2 : Int32) (h0 : isRul v0 = true) (v3 : Int32) (u : US) : Sim tV mX6_readComparison (dd + 5) (fX6_readComparison_29 gX6_readComparison v0 v2 v3 u) 29 [some (.ref v0), some (.ref 2), some (.int v2), some (.int v3)] [] u := by
  unfold fX6_readComparison_29
  refine r_aload_n dX6_readComparison_29 rfl ?_
  refine r_iload_n dX6_readComparison_30 rfl ?_
  refine c_VI (As := [.int v3]) kvX6_35 rfl (by omega) (okX5_passes v3 u) rfl (Nat.le_of_ble_eq_true rfl) rfl dX6_readComparison_31 (fun r1 u1 => ?_)
  refine r_pop dX6_readComparison_34 rfl ?_
  refine r_aload_n dX6_readComparison_35 rfl ?_
  refine r_aload_n dX6_readComparison_36 rfl ?_
  refine r_iload_n dX6_readComparison_37 rfl ?_
  refine c_VV (As := [.ref 2, .int v2]) kvX6_26 (okO_rul h0) (by omega) (okX6_readSum gX6_readComparison hgX6_readComparison hD v0 v2 u1) rfl (Nat.le_of_ble_eq_true rfl) rfl dX6_readComparison_38 (fun u2 => ?_)
  refine r_aload_n dX6_readComparison_41 rfl ?_
  refine r_iload_n dX6_readComparison_42 rfl ?_
  refine c_VV (As := [.int v3]) kvX6_39 (okO_rul h0) (by omega) (okX6_emit v0 v3 u2) rfl (Nat.le_of_ble_eq_true rfl) rfl dX6_readComparison_43 (fun u3 => ?_)
  exact r_return rfl dX6_readComparison_46
def GX6_readComparison (gX6_readComparison : Nat → Int32 → US → Option (US)) (v0 : Nat) (v2 : Int32) (u : US) : Option (US) :=
  gd (isRul v0) (oV (GX6_readSum gX6_readComparison v0 v2 u) fun u1 => oB (fX5_peek u1) fun r2 u2 => (if r2 = 60 then fX6_readComparison_29 gX6_readComparison v0 v2 r2 u2 else (if r2 = 62 then fX6_readComparison_29 gX6_readComparison v0 v2 r2 u2 else (if r2 = 61 then fX6_readComparison_29 gX6_readComparison v0 v2 r2 u2 else some u2))))
set_option maxRecDepth 20000 in
theorem sX6_readComparison {dd : Nat} (gX6_readComparison : Nat → Int32 → US → Option (US)) (hgX6_readComparison : ∀ (v0 : Nat) (v2 : Int32) (u : US), ∀ r, gX6_readComparison v0 v2 u = some r → MetC mX6_readComparison dd [.ref v0, .ref 2, .int v2] u (tV r)) (hD : 3 ≤ dd) (v0 : Nat) (v2 : Int32) (u : US) : Sim tV mX6_readComparison (dd + 5) (GX6_readComparison gX6_readComparison v0 v2 u) 0 [some (.ref v0), some (.ref 2), some (.int v2), none] [] u := by
  unfold GX6_readComparison
  refine r_gd (fun h0 => ?_)
  refine r_aload_n dX6_readComparison_0 rfl ?_
  refine r_aload_n dX6_readComparison_1 rfl ?_
  refine r_iload_n dX6_readComparison_2 rfl ?_
  refine c_VV (As := [.ref 2, .int v2]) kvX6_26 (okO_rul h0) (by omega) (okX6_readSum gX6_readComparison hgX6_readComparison hD v0 v2 u) rfl (Nat.le_of_ble_eq_true rfl) rfl dX6_readComparison_3 (fun u1 => ?_)
  refine r_aload_n dX6_readComparison_6 rfl ?_
  refine c_VI (As := []) kvX6_29 rfl (by omega) (okX5_peek u1) rfl (Nat.le_of_ble_eq_true rfl) rfl dX6_readComparison_7 (fun r2 u2 => ?_)
  refine r_istore_n dX6_readComparison_10 (Nat.le_of_ble_eq_true rfl) (ls2 := [some (.ref v0), some (.ref 2), some (.int v2), some (.int r2)]) rfl ?_
  refine r_iload_n dX6_readComparison_11 rfl ?_
  refine r_bipush dX6_readComparison_12 (v := 60) rfl ?_
  refine r_icmp_eq dX6_readComparison_14 (tgt := 29) rfl ?_ ?_
  · exact sX6_readComparison_29 gX6_readComparison hgX6_readComparison hD v0 v2 h0 r2 u2
  · refine r_iload_n dX6_readComparison_17 rfl ?_
    refine r_bipush dX6_readComparison_18 (v := 62) rfl ?_
    refine r_icmp_eq dX6_readComparison_20 (tgt := 29) rfl ?_ ?_
    · exact sX6_readComparison_29 gX6_readComparison hgX6_readComparison hD v0 v2 h0 r2 u2
    · refine r_iload_n dX6_readComparison_23 rfl ?_
      refine r_bipush dX6_readComparison_24 (v := 61) rfl ?_
      refine r_icmp_ne dX6_readComparison_26 (tgt := 46) rfl ?_ ?_
      · exact r_return rfl dX6_readComparison_46
      · exact sX6_readComparison_29 gX6_readComparison hgX6_readComparison hD v0 v2 h0 r2 u2
theorem okX6_readComparison {dd : Nat} (gX6_readComparison : Nat → Int32 → US → Option (US)) (hgX6_readComparison : ∀ (v0 : Nat) (v2 : Int32) (u : US), ∀ r, gX6_readComparison v0 v2 u = some r → MetC mX6_readComparison dd [.ref v0, .ref 2, .int v2] u (tV r)) (hD : 3 ≤ dd) (v0 : Nat) (v2 : Int32) (u : US) : ∀ r, GX6_readComparison gX6_readComparison v0 v2 u = some r → MetC mX6_readComparison (dd + 5) [.ref v0, .ref 2, .int v2] u (tV r) :=
  met_of (by decide +kernel) (Nat.le_of_ble_eq_true rfl) rfl (sX6_readComparison gX6_readComparison hgX6_readComparison hD v0 v2 u)
def fX6_readComparison : Nat → Nat → Int32 → US → Option (US)
  | 0 => fun _ _ _ => none
  | n + 1 => GX6_readComparison (fX6_readComparison n)
theorem ok_X6_readComparison : ∀ (n : Nat) (v0 : Nat) (v2 : Int32) (u : US), ∀ r, fX6_readComparison n v0 v2 u = some r → MetC mX6_readComparison (3 + n * 5) [.ref v0, .ref 2, .int v2] u (tV r) := by
  intro n
  induction n with
  | zero => intro v0 v2 u r h; cases h
  | succ n ih =>
    intro v0 v2 u r h
    have := okX6_readComparison (dd := 3 + n * 5) (fX6_readComparison n) ih (by omega) v0 v2 u r h
    rw [show 3 + (n + 1) * 5 = 3 + n * 5 + 5 by omega]
    exact this
def fX6_read (v0 : Nat) (u : US) : Option (US) :=
  gd (isRul v0) (oV (fX6_readComparison 8 v0 0 u) fun u1 => some u1)
set_option maxRecDepth 20000 in
theorem sX6_read (v0 : Nat) (u : US) : Sim tV mX6_read 401 (fX6_read v0 u) 0 [some (.ref v0), some (.ref 2)] [] u := by
  unfold fX6_read
  refine r_gd (fun h0 => ?_)
  refine r_aload_n dX6_read_0 rfl ?_
  refine r_aload_n dX6_read_1 rfl ?_
  refine r_iconst dX6_read_2 (v := 0) rfl ?_
  refine c_VV (As := [.ref 2, .int 0]) kvX6_22 (okO_rul h0) (by decide) (ok_X6_readComparison 8 v0 0 u) rfl (Nat.le_of_ble_eq_true rfl) rfl dX6_read_3 (fun u1 => ?_)
  exact r_return rfl dX6_read_6
theorem okX6_read (v0 : Nat) (u : US) : ∀ r, fX6_read v0 u = some r → MetC mX6_read 401 [.ref v0, .ref 2] u (tV r) :=
  met_of (by decide +kernel) (Nat.le_of_ble_eq_true rfl) rfl (sX6_read v0 u)
def fX11_readSpare_47 (v1 : Int32) (u : US) : Option (Int32 × US) :=
  oV (fX7_clear u) fun u1 => some (v1, u1)
set_option maxRecDepth 20000 in
theorem sX11_readSpare_47 (v1 : Int32) (u : US) : Sim tI mX11_readSpare 402 (fX11_readSpare_47 v1 u) 47 [some (.ref 0), some (.int v1)] [] u := by
  unfold fX11_readSpare_47
  refine r_aload_n dX11_readSpare_47 rfl ?_
  refine r_get 0 0 flX11_10 rfl (v := .ref 1) rfl dX11_readSpare_48 ?_
  refine c_VV (As := []) kvX11_115 rfl (by decide) (okX7_clear u) rfl (Nat.le_of_ble_eq_true rfl) rfl dX11_readSpare_51 (fun u1 => ?_)
  refine r_iload_n dX11_readSpare_54 rfl ?_
  exact r_ireturn rfl dX11_readSpare_55
def fX11_readSpare (u : US) : Option (Int32 × US) :=
  gd (isRul (gR u 1)) (oV (fX6_clear (gR u 1) u) fun u2 => oB (fX7_isEmpty u2) fun r3 u3 => (if r3 = 0 then oV (fX5_open 40 u3) fun u4 => gd (isRul (gR u4 1)) (oV (fX6_read (gR u4 1) u4) fun u6 => oB (fX5_firstFault u6) fun r7 u7 => fX11_readSpare_47 r7 u7) else fX11_readSpare_47 (-1) u3))
set_option maxRecDepth 20000 in
theorem sX11_readSpare (u : US) : Sim tI mX11_readSpare 402 (fX11_readSpare u) 0 [some (.ref 0), none] [] u := by
  unfold fX11_readSpare
  refine r_aload_n dX11_readSpare_0 rfl ?_
  refine r_get 0 12 flX11_92 rfl (v := .ref (gR u 1)) rfl dX11_readSpare_1 ?_
  refine r_gd (fun hq1 => ?_)
  refine c_VV (As := []) kvX11_153 (okO_rul hq1) (by decide) (okX6_clear (gR u 1) u) rfl (Nat.le_of_ble_eq_true rfl) rfl dX11_readSpare_4 (fun u2 => ?_)
  refine r_iconst dX11_readSpare_7 (v := -1) rfl ?_
  refine r_istore_n dX11_readSpare_8 (Nat.le_of_ble_eq_true rfl) (ls2 := [some (.ref 0), some (.int (-1))]) rfl ?_
  refine r_aload_n dX11_readSpare_9 rfl ?_
  refine r_get 0 0 flX11_10 rfl (v := .ref 1) rfl dX11_readSpare_10 ?_
  refine c_VI (As := []) kvX11_129 rfl (by decide) (okX7_isEmpty u2) rfl (Nat.le_of_ble_eq_true rfl) rfl dX11_readSpare_13 (fun r3 u3 => ?_)
  refine r_if_ne dX11_readSpare_16 (tgt := 47) rfl ?_ ?_
  · exact sX11_readSpare_47 (-1) u3
  · refine r_aload_n dX11_readSpare_19 rfl ?_
    refine r_get 0 1 flX11_21 rfl (v := .ref 2) rfl dX11_readSpare_20 ?_
    refine r_bipush dX11_readSpare_23 (v := 40) rfl ?_
    refine c_VV (As := [.int 40]) kvX11_104 rfl (by decide) (okX5_open 40 u3) rfl (Nat.le_of_ble_eq_true rfl) rfl dX11_readSpare_25 (fun u4 => ?_)
    refine r_aload_n dX11_readSpare_28 rfl ?_
    refine r_get 0 12 flX11_92 rfl (v := .ref (gR u4 1)) rfl dX11_readSpare_29 ?_
    refine r_aload_n dX11_readSpare_32 rfl ?_
    refine r_get 0 1 flX11_21 rfl (v := .ref 2) rfl dX11_readSpare_33 ?_
    refine r_gd (fun hq5 => ?_)
    refine c_VV (As := [.ref 2]) kvX11_154 (okO_rul hq5) (by decide) (okX6_read (gR u4 1) u4) rfl (Nat.le_of_ble_eq_true rfl) rfl dX11_readSpare_36 (fun u6 => ?_)
    refine r_aload_n dX11_readSpare_39 rfl ?_
    refine r_get 0 1 flX11_21 rfl (v := .ref 2) rfl dX11_readSpare_40 ?_
    refine c_VI (As := []) kvX11_158 rfl (by decide) (okX5_firstFault u6) rfl (Nat.le_of_ble_eq_true rfl) rfl dX11_readSpare_43 (fun r7 u7 => ?_)
    refine r_istore_n dX11_readSpare_46 (Nat.le_of_ble_eq_true rfl) (ls2 := [some (.ref 0), some (.int r7)]) rfl ?_
    exact sX11_readSpare_47 r7 u7
theorem okX11_readSpare (u : US) : ∀ r, fX11_readSpare u = some r → MetC mX11_readSpare 402 [.ref 0] u (tI r) :=
  met_of (by decide +kernel) (Nat.le_of_ble_eq_true rfl) rfl (sX11_readSpare u)
def fX11_swapRules (u : US) : Option (US) :=
  nx (sR u 0 (gR u 1)) fun u1 => nx (sR u1 1 (gR u 0)) fun u2 => some u2
set_option maxRecDepth 20000 in
theorem sX11_swapRules (u : US) : Sim tV mX11_swapRules 0 (fX11_swapRules u) 0 [some (.ref 0), none] [] u := by
  unfold fX11_swapRules
  refine r_aload_n dX11_swapRules_0 rfl ?_
  refine r_get 0 2 flX11_28 rfl (v := .ref 3) rfl dX11_swapRules_1 ?_
  refine r_get 3 11 flX11_161 rfl (v := .ref (gR u 0)) rfl dX11_swapRules_4 ?_
  refine r_astore_n dX11_swapRules_7 (Nat.le_of_ble_eq_true rfl) (ls2 := [some (.ref 0), some (.ref (gR u 0))]) rfl ?_
  refine r_aload_n dX11_swapRules_8 rfl ?_
  refine r_get 0 2 flX11_28 rfl (v := .ref 3) rfl dX11_swapRules_9 ?_
  refine r_aload_n dX11_swapRules_12 rfl ?_
  refine r_get 0 12 flX11_92 rfl (v := .ref (gR u 1)) rfl dX11_swapRules_13 ?_
  refine r_putR 3 11 0 (by decide) fpX11_161 dX11_swapRules_16 (r_nx (fun u1 => ?_))
  refine r_aload_n dX11_swapRules_19 rfl ?_
  refine r_aload_n dX11_swapRules_20 rfl ?_
  refine r_putR 0 12 1 (by decide) fpX11_92 dX11_swapRules_21 (r_nx (fun u2 => ?_))
  exact r_return rfl dX11_swapRules_24
theorem okX11_swapRules (u : US) : ∀ r, fX11_swapRules u = some r → MetC mX11_swapRules 0 [.ref 0] u (tV r) :=
  met_of (by decide +kernel) (Nat.le_of_ble_eq_true rfl) rfl (sX11_swapRules u)
def fX8_pairsThrough_4 (v1 : Nat) : Nat → Int32 → Int32 → US → Option (Int32 × US)
  | 0, _, _, _ => none
  | n + 1, v2, v3, u => (if (gI u 3 3) ≤ v3 then some (v2, u) else oB (fX8_allThings u) fun r1 u1 => oB (fX8_through v1 v3 r1 u1) fun r2 u2 => oB (fJ6_bitCount_0f7a4 r2 u2) fun r3 u3 => fX8_pairsThrough_4 v1 n (v2 + r3) (v3 + 1) u3)
set_option maxRecDepth 20000 in
theorem sX8_pairsThrough_4 (v1 : Nat) (h1 : isMom v1 = true) : ∀ (n : Nat) (v2 : Int32) (v3 : Int32) (u : US), Sim tI mX8_pairsThrough 5 (fX8_pairsThrough_4 v1 n v2 v3 u) 4 [some (.ref 3), some (.ref v1), some (.int v2), some (.int v3)] [] u := by
  intro n
  induction n with
  | zero =>
    intro v2 v3 u
    rw [fX8_pairsThrough_4.eq_1]
    exact r_none
  | succ n ih =>
    intro v2 v3 u
    rw [fX8_pairsThrough_4.eq_2]
    refine r_iload_n dX8_pairsThrough_4 rfl ?_
    refine r_aload_n dX8_pairsThrough_5 rfl ?_
    refine r_get 3 3 flX8_47 rfl (v := .int (gI u 3 3)) rfl dX8_pairsThrough_6 ?_
    refine r_icmp_ge dX8_pairsThrough_9 (tgt := 34) rfl ?_ ?_
    · refine r_iload_n dX8_pairsThrough_34 rfl ?_
      exact r_ireturn rfl dX8_pairsThrough_35
    · refine r_iload_n dX8_pairsThrough_12 rfl ?_
      refine r_aload_n dX8_pairsThrough_13 rfl ?_
      refine r_aload_n dX8_pairsThrough_14 rfl ?_
      refine r_iload_n dX8_pairsThrough_15 rfl ?_
      refine r_aload_n dX8_pairsThrough_16 rfl ?_
      refine c_VI (As := []) kvX8_57 rfl (by decide) (okX8_allThings u) rfl (Nat.le_of_ble_eq_true rfl) rfl dX8_pairsThrough_17 (fun r1 u1 => ?_)
      refine c_VI (As := [.ref v1, .int v3, .int r1]) kvX8_152 rfl (by decide) (okX8_through v1 v3 r1 u1) rfl (Nat.le_of_ble_eq_true rfl) rfl dX8_pairsThrough_20 (fun r2 u2 => ?_)
      refine c_SI (As := [.int r2]) ksX8_156 (by decide) (okJ6_bitCount_0f7a4 r2 u2) rfl (Nat.le_of_ble_eq_true rfl) rfl dX8_pairsThrough_23 (fun r3 u3 => ?_)
      refine r_iadd dX8_pairsThrough_26 ?_
      refine r_istore_n dX8_pairsThrough_27 (Nat.le_of_ble_eq_true rfl) (ls2 := [some (.ref 3), some (.ref v1), some (.int (v2 + r3)), some (.int v3)]) rfl ?_
      refine r_iinc dX8_pairsThrough_28 (Nat.le_of_ble_eq_true rfl) rfl (v := v3 + 1) rfl (ls2 := [some (.ref 3), some (.ref v1), some (.int (v2 + r3)), some (.int (v3 + 1))]) rfl ?_
      refine r_goto dX8_pairsThrough_31 (tgt := 4) rfl ?_
      exact ih (v2 + r3) (v3 + 1) u3
def fX8_pairsThrough (v1 : Nat) (u : US) : Option (Int32 × US) :=
  gd (isMom v1) (fX8_pairsThrough_4 v1 FU 0 0 u)
set_option maxRecDepth 20000 in
theorem sX8_pairsThrough (v1 : Nat) (u : US) : Sim tI mX8_pairsThrough 5 (fX8_pairsThrough v1 u) 0 [some (.ref 3), some (.ref v1), none, none] [] u := by
  unfold fX8_pairsThrough
  refine r_gd (fun h1 => ?_)
  refine r_iconst dX8_pairsThrough_0 (v := 0) rfl ?_
  refine r_istore_n dX8_pairsThrough_1 (Nat.le_of_ble_eq_true rfl) (ls2 := [some (.ref 3), some (.ref v1), some (.int 0), none]) rfl ?_
  refine r_iconst dX8_pairsThrough_2 (v := 0) rfl ?_
  refine r_istore_n dX8_pairsThrough_3 (Nat.le_of_ble_eq_true rfl) (ls2 := [some (.ref 3), some (.ref v1), some (.int 0), some (.int 0)]) rfl ?_
  exact sX8_pairsThrough_4 v1 h1 FU 0 0 u
theorem okX8_pairsThrough (v1 : Nat) (u : US) : ∀ r, fX8_pairsThrough v1 u = some r → MetC mX8_pairsThrough 5 [.ref 3, .ref v1] u (tI r) :=
  met_of (by decide +kernel) (Nat.le_of_ble_eq_true rfl) rfl (sX8_pairsThrough v1 u)
def fX11_law (u : US) : Option (Int32 × US) :=
  oB (fX11_readSpare u) fun r1 u1 => (if r1 = (-1) then oB (fX8_pairsThrough 4 u1) fun r2 u2 => oV (fX11_swapRules u2) fun u3 => oB (fX8_pairsThrough 4 u3) fun r4 u4 => oV (fX11_swapRules u4) fun u5 => oV (fX2_tellTwo ((r4 : Int32).toInt64) ((r2 : Int32).toInt64) u5) fun u6 => some (r4 - r2, u6) else some ((-10000) - r1, u1))
set_option maxRecDepth 20000 in
theorem sX11_law (u : US) : Sim tI mX11_law 403 (fX11_law u) 0 [some (.ref 0), none, none, none] [] u := by
  unfold fX11_law
  refine r_aload_n dX11_law_0 rfl ?_
  refine c_VI (As := []) kvX11_147 rfl (by decide) (okX11_readSpare u) rfl (Nat.le_of_ble_eq_true rfl) rfl dX11_law_1 (fun r1 u1 => ?_)
  refine r_istore_n dX11_law_4 (Nat.le_of_ble_eq_true rfl) (ls2 := [some (.ref 0), some (.int r1), none, none]) rfl ?_
  refine r_iload_n dX11_law_5 rfl ?_
  refine r_iconst dX11_law_6 (v := -1) rfl ?_
  refine r_icmp_eq dX11_law_7 (tgt := 16) rfl ?_ ?_
  · refine r_aload_n dX11_law_16 rfl ?_
    refine r_get 0 2 flX11_28 rfl (v := .ref 3) rfl dX11_law_17 ?_
    refine r_aload_n dX11_law_20 rfl ?_
    refine r_get 0 3 flX11_35 rfl (v := .ref 4) rfl dX11_law_21 ?_
    refine c_VI (As := [.ref 4]) kvX11_443 rfl (by decide) (okX8_pairsThrough 4 u1) rfl (Nat.le_of_ble_eq_true rfl) rfl dX11_law_24 (fun r2 u2 => ?_)
    refine r_istore_n dX11_law_27 (Nat.le_of_ble_eq_true rfl) (ls2 := [some (.ref 0), some (.int r1), some (.int r2), none]) rfl ?_
    refine r_aload_n dX11_law_28 rfl ?_
    refine c_VV (As := []) kvX11_150 rfl (by decide) (okX11_swapRules u2) rfl (Nat.le_of_ble_eq_true rfl) rfl dX11_law_29 (fun u3 => ?_)
    refine r_aload_n dX11_law_32 rfl ?_
    refine r_get 0 2 flX11_28 rfl (v := .ref 3) rfl dX11_law_33 ?_
    refine r_aload_n dX11_law_36 rfl ?_
    refine r_get 0 3 flX11_35 rfl (v := .ref 4) rfl dX11_law_37 ?_
    refine c_VI (As := [.ref 4]) kvX11_443 rfl (by decide) (okX8_pairsThrough 4 u3) rfl (Nat.le_of_ble_eq_true rfl) rfl dX11_law_40 (fun r4 u4 => ?_)
    refine r_istore_n dX11_law_43 (Nat.le_of_ble_eq_true rfl) (ls2 := [some (.ref 0), some (.int r1), some (.int r2), some (.int r4)]) rfl ?_
    refine r_aload_n dX11_law_44 rfl ?_
    refine c_VV (As := []) kvX11_150 rfl (by decide) (okX11_swapRules u4) rfl (Nat.le_of_ble_eq_true rfl) rfl dX11_law_45 (fun u5 => ?_)
    refine r_aload_n dX11_law_48 rfl ?_
    refine r_get 0 7 flX11_55 rfl (v := .ref 8) rfl dX11_law_49 ?_
    refine r_iload_n dX11_law_52 rfl ?_
    refine r_i2l dX11_law_53 ?_
    refine r_iload_n dX11_law_54 rfl ?_
    refine r_i2l dX11_law_55 ?_
    refine c_VV (As := [.long ((r4 : Int32).toInt64), .long ((r2 : Int32).toInt64)]) kvX11_298 rfl (by decide) (okX2_tellTwo ((r4 : Int32).toInt64) ((r2 : Int32).toInt64) u5) rfl (Nat.le_of_ble_eq_true rfl) rfl dX11_law_56 (fun u6 => ?_)
    refine r_iload_n dX11_law_59 rfl ?_
    refine r_iload_n dX11_law_60 rfl ?_
    refine r_isub dX11_law_61 ?_
    exact r_ireturn rfl dX11_law_62
  · refine r_sipush dX11_law_10 (v := -10000) rfl ?_
    refine r_iload_n dX11_law_13 rfl ?_
    refine r_isub dX11_law_14 ?_
    exact r_ireturn rfl dX11_law_15
theorem okX11_law (u : US) : ∀ r, fX11_law u = some r → MetC mX11_law 403 [.ref 0] u (tI r) :=
  met_of (by decide +kernel) (Nat.le_of_ble_eq_true rfl) rfl (sX11_law u)
def fX11_laws (u : US) : Option (Int32 × US) :=
  oB (fX10_weigh u) fun r1 u1 => oV (fX2_clear u1) fun u2 => oB (fX10_mildestLimit u2) fun r3 u3 => (if r3 = (-1) then some (r1, u3) else oB (fX10_hiddenAt r3 u3) fun r4 u4 => oV (fX2_tellTwo ((r4 : Int32).toInt64) ((r3 : Int32).toInt64) u4) fun u5 => some (r1, u5))
set_option maxRecDepth 20000 in
theorem sX11_laws (u : US) : Sim tI mX11_laws 3 (fX11_laws u) 0 [some (.ref 0), none, none] [] u := by
  unfold fX11_laws
  refine r_aload_n dX11_laws_0 rfl ?_
  refine r_get 0 10 flX11_78 rfl (v := .ref 11) rfl dX11_laws_1 ?_
  refine c_VI (As := []) kvX11_392 rfl (by decide) (okX10_weigh u) rfl (Nat.le_of_ble_eq_true rfl) rfl dX11_laws_4 (fun r1 u1 => ?_)
  refine r_istore_n dX11_laws_7 (Nat.le_of_ble_eq_true rfl) (ls2 := [some (.ref 0), some (.int r1), none]) rfl ?_
  refine r_aload_n dX11_laws_8 rfl ?_
  refine r_get 0 7 flX11_55 rfl (v := .ref 8) rfl dX11_laws_9 ?_
  refine c_VV (As := []) kvX11_266 rfl (by decide) (okX2_clear u1) rfl (Nat.le_of_ble_eq_true rfl) rfl dX11_laws_12 (fun u2 => ?_)
  refine r_aload_n dX11_laws_15 rfl ?_
  refine r_get 0 10 flX11_78 rfl (v := .ref 11) rfl dX11_laws_16 ?_
  refine c_VI (As := []) kvX11_395 rfl (by decide) (okX10_mildestLimit u2) rfl (Nat.le_of_ble_eq_true rfl) rfl dX11_laws_19 (fun r3 u3 => ?_)
  refine r_istore_n dX11_laws_22 (Nat.le_of_ble_eq_true rfl) (ls2 := [some (.ref 0), some (.int r1), some (.int r3)]) rfl ?_
  refine r_iload_n dX11_laws_23 rfl ?_
  refine r_iconst dX11_laws_24 (v := -1) rfl ?_
  refine r_icmp_eq dX11_laws_25 (tgt := 46) rfl ?_ ?_
  · refine r_iload_n dX11_laws_46 rfl ?_
    exact r_ireturn rfl dX11_laws_47
  · refine r_aload_n dX11_laws_28 rfl ?_
    refine r_get 0 7 flX11_55 rfl (v := .ref 8) rfl dX11_laws_29 ?_
    refine r_aload_n dX11_laws_32 rfl ?_
    refine r_get 0 10 flX11_78 rfl (v := .ref 11) rfl dX11_laws_33 ?_
    refine r_iload_n dX11_laws_36 rfl ?_
    refine c_VI (As := [.int r3]) kvX11_398 rfl (by decide) (okX10_hiddenAt r3 u3) rfl (Nat.le_of_ble_eq_true rfl) rfl dX11_laws_37 (fun r4 u4 => ?_)
    refine r_i2l dX11_laws_40 ?_
    refine r_iload_n dX11_laws_41 rfl ?_
    refine r_i2l dX11_laws_42 ?_
    refine c_VV (As := [.long ((r4 : Int32).toInt64), .long ((r3 : Int32).toInt64)]) kvX11_298 rfl (by decide) (okX2_tellTwo ((r4 : Int32).toInt64) ((r3 : Int32).toInt64) u4) rfl (Nat.le_of_ble_eq_true rfl) rfl dX11_laws_43 (fun u5 => ?_)
    refine r_iload_n dX11_laws_46 rfl ?_
    exact r_ireturn rfl dX11_laws_47
theorem okX11_laws (u : US) : ∀ r, fX11_laws u = some r → MetC mX11_laws 3 [.ref 0] u (tI r) :=
  met_of (by decide +kernel) (Nat.le_of_ble_eq_true rfl) rfl (sX11_laws u)
