def fJ13_bitCount_95d88 (v0 : Int64) (u : US) : Option (Int32 × US) :=
  some ((((((((((v0 - ((ushL v0 1) &&& 6148914691236517205)) &&& 3689348814741910323) + ((ushL (v0 - ((ushL v0 1) &&& 6148914691236517205)) 2) &&& 3689348814741910323)) + (ushL (((v0 - ((ushL v0 1) &&& 6148914691236517205)) &&& 3689348814741910323) + ((ushL (v0 - ((ushL v0 1) &&& 6148914691236517205)) 2) &&& 3689348814741910323)) 4)) &&& 1085102592571150095) + (ushL (((((v0 - ((ushL v0 1) &&& 6148914691236517205)) &&& 3689348814741910323) + ((ushL (v0 - ((ushL v0 1) &&& 6148914691236517205)) 2) &&& 3689348814741910323)) + (ushL (((v0 - ((ushL v0 1) &&& 6148914691236517205)) &&& 3689348814741910323) + ((ushL (v0 - ((ushL v0 1) &&& 6148914691236517205)) 2) &&& 3689348814741910323)) 4)) &&& 1085102592571150095) 8)) + (ushL ((((((v0 - ((ushL v0 1) &&& 6148914691236517205)) &&& 3689348814741910323) + ((ushL (v0 - ((ushL v0 1) &&& 6148914691236517205)) 2) &&& 3689348814741910323)) + (ushL (((v0 - ((ushL v0 1) &&& 6148914691236517205)) &&& 3689348814741910323) + ((ushL (v0 - ((ushL v0 1) &&& 6148914691236517205)) 2) &&& 3689348814741910323)) 4)) &&& 1085102592571150095) + (ushL (((((v0 - ((ushL v0 1) &&& 6148914691236517205)) &&& 3689348814741910323) + ((ushL (v0 - ((ushL v0 1) &&& 6148914691236517205)) 2) &&& 3689348814741910323)) + (ushL (((v0 - ((ushL v0 1) &&& 6148914691236517205)) &&& 3689348814741910323) + ((ushL (v0 - ((ushL v0 1) &&& 6148914691236517205)) 2) &&& 3689348814741910323)) 4)) &&& 1085102592571150095) 8)) 16)) + (ushL (((((((v0 - ((ushL v0 1) &&& 6148914691236517205)) &&& 3689348814741910323) + ((ushL (v0 - ((ushL v0 1) &&& 6148914691236517205)) 2) &&& 3689348814741910323)) + (ushL (((v0 - ((ushL v0 1) &&& 6148914691236517205)) &&& 3689348814741910323) + ((ushL (v0 - ((ushL v0 1) &&& 6148914691236517205)) 2) &&& 3689348814741910323)) 4)) &&& 1085102592571150095) + (ushL (((((v0 - ((ushL v0 1) &&& 6148914691236517205)) &&& 3689348814741910323) + ((ushL (v0 - ((ushL v0 1) &&& 6148914691236517205)) 2) &&& 3689348814741910323)) + (ushL (((v0 - ((ushL v0 1) &&& 6148914691236517205)) &&& 3689348814741910323) + ((ushL (v0 - ((ushL v0 1) &&& 6148914691236517205)) 2) &&& 3689348814741910323)) 4)) &&& 1085102592571150095) 8)) + (ushL ((((((v0 - ((ushL v0 1) &&& 6148914691236517205)) &&& 3689348814741910323) + ((ushL (v0 - ((ushL v0 1) &&& 6148914691236517205)) 2) &&& 3689348814741910323)) + (ushL (((v0 - ((ushL v0 1) &&& 6148914691236517205)) &&& 3689348814741910323) + ((ushL (v0 - ((ushL v0 1) &&& 6148914691236517205)) 2) &&& 3689348814741910323)) 4)) &&& 1085102592571150095) + (ushL (((((v0 - ((ushL v0 1) &&& 6148914691236517205)) &&& 3689348814741910323) + ((ushL (v0 - ((ushL v0 1) &&& 6148914691236517205)) 2) &&& 3689348814741910323)) + (ushL (((v0 - ((ushL v0 1) &&& 6148914691236517205)) &&& 3689348814741910323) + ((ushL (v0 - ((ushL v0 1) &&& 6148914691236517205)) 2) &&& 3689348814741910323)) 4)) &&& 1085102592571150095) 8)) 16)) 32) : Int64).toInt32) &&& 127, u)
set_option maxRecDepth 20000 in
theorem sJ13_bitCount_95d88 (v0 : Int64) (u : US) : Sim tI mJ13_bitCount_95d88 0 (fJ13_bitCount_95d88 v0 u) 0 [some (.long v0), none] [] u := by
  unfold fJ13_bitCount_95d88
  refine r_lload_n dJ13_bitCount_95d88_0 rfl ?_
  refine r_lload_n dJ13_bitCount_95d88_1 rfl ?_
  refine r_iconst dJ13_bitCount_95d88_2 (v := 1) rfl ?_
  refine r_lushr dJ13_bitCount_95d88_3 ?_
  refine r_ldc2 dJ13_bitCount_95d88_4 kJJ13_314 ?_
  refine r_land dJ13_bitCount_95d88_7 ?_
  refine r_lsub dJ13_bitCount_95d88_8 ?_
  refine r_lstore_n dJ13_bitCount_95d88_9 (Nat.le_of_ble_eq_true rfl) (ls2 := [some (.long (v0 - ((ushL v0 1) &&& 6148914691236517205))), none]) rfl ?_
  refine r_lload_n dJ13_bitCount_95d88_10 rfl ?_
  refine r_ldc2 dJ13_bitCount_95d88_11 kJJ13_316 ?_
  refine r_land dJ13_bitCount_95d88_14 ?_
  refine r_lload_n dJ13_bitCount_95d88_15 rfl ?_
  refine r_iconst dJ13_bitCount_95d88_16 (v := 2) rfl ?_
  refine r_lushr dJ13_bitCount_95d88_17 ?_
  refine r_ldc2 dJ13_bitCount_95d88_18 kJJ13_316 ?_
  refine r_land dJ13_bitCount_95d88_21 ?_
  refine r_ladd dJ13_bitCount_95d88_22 ?_
  refine r_lstore_n dJ13_bitCount_95d88_23 (Nat.le_of_ble_eq_true rfl) (ls2 := [some (.long (((v0 - ((ushL v0 1) &&& 6148914691236517205)) &&& 3689348814741910323) + ((ushL (v0 - ((ushL v0 1) &&& 6148914691236517205)) 2) &&& 3689348814741910323))), none]) rfl ?_
  refine r_lload_n dJ13_bitCount_95d88_24 rfl ?_
  refine r_lload_n dJ13_bitCount_95d88_25 rfl ?_
  refine r_iconst dJ13_bitCount_95d88_26 (v := 4) rfl ?_
  refine r_lushr dJ13_bitCount_95d88_27 ?_
  refine r_ladd dJ13_bitCount_95d88_28 ?_
  refine r_ldc2 dJ13_bitCount_95d88_29 kJJ13_318 ?_
  refine r_land dJ13_bitCount_95d88_32 ?_
  refine r_lstore_n dJ13_bitCount_95d88_33 (Nat.le_of_ble_eq_true rfl) (ls2 := [some (.long (((((v0 - ((ushL v0 1) &&& 6148914691236517205)) &&& 3689348814741910323) + ((ushL (v0 - ((ushL v0 1) &&& 6148914691236517205)) 2) &&& 3689348814741910323)) + (ushL (((v0 - ((ushL v0 1) &&& 6148914691236517205)) &&& 3689348814741910323) + ((ushL (v0 - ((ushL v0 1) &&& 6148914691236517205)) 2) &&& 3689348814741910323)) 4)) &&& 1085102592571150095)), none]) rfl ?_
  refine r_lload_n dJ13_bitCount_95d88_34 rfl ?_
  refine r_lload_n dJ13_bitCount_95d88_35 rfl ?_
  refine r_bipush dJ13_bitCount_95d88_36 (v := 8) rfl ?_
  refine r_lushr dJ13_bitCount_95d88_38 ?_
  refine r_ladd dJ13_bitCount_95d88_39 ?_
  refine r_lstore_n dJ13_bitCount_95d88_40 (Nat.le_of_ble_eq_true rfl) (ls2 := [some (.long ((((((v0 - ((ushL v0 1) &&& 6148914691236517205)) &&& 3689348814741910323) + ((ushL (v0 - ((ushL v0 1) &&& 6148914691236517205)) 2) &&& 3689348814741910323)) + (ushL (((v0 - ((ushL v0 1) &&& 6148914691236517205)) &&& 3689348814741910323) + ((ushL (v0 - ((ushL v0 1) &&& 6148914691236517205)) 2) &&& 3689348814741910323)) 4)) &&& 1085102592571150095) + (ushL (((((v0 - ((ushL v0 1) &&& 6148914691236517205)) &&& 3689348814741910323) + ((ushL (v0 - ((ushL v0 1) &&& 6148914691236517205)) 2) &&& 3689348814741910323)) + (ushL (((v0 - ((ushL v0 1) &&& 6148914691236517205)) &&& 3689348814741910323) + ((ushL (v0 - ((ushL v0 1) &&& 6148914691236517205)) 2) &&& 3689348814741910323)) 4)) &&& 1085102592571150095) 8))), none]) rfl ?_
  refine r_lload_n dJ13_bitCount_95d88_41 rfl ?_
  refine r_lload_n dJ13_bitCount_95d88_42 rfl ?_
  refine r_bipush dJ13_bitCount_95d88_43 (v := 16) rfl ?_
  refine r_lushr dJ13_bitCount_95d88_45 ?_
  refine r_ladd dJ13_bitCount_95d88_46 ?_
  refine r_lstore_n dJ13_bitCount_95d88_47 (Nat.le_of_ble_eq_true rfl) (ls2 := [some (.long (((((((v0 - ((ushL v0 1) &&& 6148914691236517205)) &&& 3689348814741910323) + ((ushL (v0 - ((ushL v0 1) &&& 6148914691236517205)) 2) &&& 3689348814741910323)) + (ushL (((v0 - ((ushL v0 1) &&& 6148914691236517205)) &&& 3689348814741910323) + ((ushL (v0 - ((ushL v0 1) &&& 6148914691236517205)) 2) &&& 3689348814741910323)) 4)) &&& 1085102592571150095) + (ushL (((((v0 - ((ushL v0 1) &&& 6148914691236517205)) &&& 3689348814741910323) + ((ushL (v0 - ((ushL v0 1) &&& 6148914691236517205)) 2) &&& 3689348814741910323)) + (ushL (((v0 - ((ushL v0 1) &&& 6148914691236517205)) &&& 3689348814741910323) + ((ushL (v0 - ((ushL v0 1) &&& 6148914691236517205)) 2) &&& 3689348814741910323)) 4)) &&& 1085102592571150095) 8)) + (ushL ((((((v0 - ((ushL v0 1) &&& 6148914691236517205)) &&& 3689348814741910323) + ((ushL (v0 - ((ushL v0 1) &&& 6148914691236517205)) 2) &&& 3689348814741910323)) + (ushL (((v0 - ((ushL v0 1) &&& 6148914691236517205)) &&& 3689348814741910323) + ((ushL (v0 - ((ushL v0 1) &&& 6148914691236517205)) 2) &&& 3689348814741910323)) 4)) &&& 1085102592571150095) + (ushL (((((v0 - ((ushL v0 1) &&& 6148914691236517205)) &&& 3689348814741910323) + ((ushL (v0 - ((ushL v0 1) &&& 6148914691236517205)) 2) &&& 3689348814741910323)) + (ushL (((v0 - ((ushL v0 1) &&& 6148914691236517205)) &&& 3689348814741910323) + ((ushL (v0 - ((ushL v0 1) &&& 6148914691236517205)) 2) &&& 3689348814741910323)) 4)) &&& 1085102592571150095) 8)) 16))), none]) rfl ?_
  refine r_lload_n dJ13_bitCount_95d88_48 rfl ?_
  refine r_lload_n dJ13_bitCount_95d88_49 rfl ?_
  refine r_bipush dJ13_bitCount_95d88_50 (v := 32) rfl ?_
  refine r_lushr dJ13_bitCount_95d88_52 ?_
  refine r_ladd dJ13_bitCount_95d88_53 ?_
  refine r_lstore_n dJ13_bitCount_95d88_54 (Nat.le_of_ble_eq_true rfl) (ls2 := [some (.long ((((((((v0 - ((ushL v0 1) &&& 6148914691236517205)) &&& 3689348814741910323) + ((ushL (v0 - ((ushL v0 1) &&& 6148914691236517205)) 2) &&& 3689348814741910323)) + (ushL (((v0 - ((ushL v0 1) &&& 6148914691236517205)) &&& 3689348814741910323) + ((ushL (v0 - ((ushL v0 1) &&& 6148914691236517205)) 2) &&& 3689348814741910323)) 4)) &&& 1085102592571150095) + (ushL (((((v0 - ((ushL v0 1) &&& 6148914691236517205)) &&& 3689348814741910323) + ((ushL (v0 - ((ushL v0 1) &&& 6148914691236517205)) 2) &&& 3689348814741910323)) + (ushL (((v0 - ((ushL v0 1) &&& 6148914691236517205)) &&& 3689348814741910323) + ((ushL (v0 - ((ushL v0 1) &&& 6148914691236517205)) 2) &&& 3689348814741910323)) 4)) &&& 1085102592571150095) 8)) + (ushL ((((((v0 - ((ushL v0 1) &&& 6148914691236517205)) &&& 3689348814741910323) + ((ushL (v0 - ((ushL v0 1) &&& 6148914691236517205)) 2) &&& 3689348814741910323)) + (ushL (((v0 - ((ushL v0 1) &&& 6148914691236517205)) &&& 3689348814741910323) + ((ushL (v0 - ((ushL v0 1) &&& 6148914691236517205)) 2) &&& 3689348814741910323)) 4)) &&& 1085102592571150095) + (ushL (((((v0 - ((ushL v0 1) &&& 6148914691236517205)) &&& 3689348814741910323) + ((ushL (v0 - ((ushL v0 1) &&& 6148914691236517205)) 2) &&& 3689348814741910323)) + (ushL (((v0 - ((ushL v0 1) &&& 6148914691236517205)) &&& 3689348814741910323) + ((ushL (v0 - ((ushL v0 1) &&& 6148914691236517205)) 2) &&& 3689348814741910323)) 4)) &&& 1085102592571150095) 8)) 16)) + (ushL (((((((v0 - ((ushL v0 1) &&& 6148914691236517205)) &&& 3689348814741910323) + ((ushL (v0 - ((ushL v0 1) &&& 6148914691236517205)) 2) &&& 3689348814741910323)) + (ushL (((v0 - ((ushL v0 1) &&& 6148914691236517205)) &&& 3689348814741910323) + ((ushL (v0 - ((ushL v0 1) &&& 6148914691236517205)) 2) &&& 3689348814741910323)) 4)) &&& 1085102592571150095) + (ushL (((((v0 - ((ushL v0 1) &&& 6148914691236517205)) &&& 3689348814741910323) + ((ushL (v0 - ((ushL v0 1) &&& 6148914691236517205)) 2) &&& 3689348814741910323)) + (ushL (((v0 - ((ushL v0 1) &&& 6148914691236517205)) &&& 3689348814741910323) + ((ushL (v0 - ((ushL v0 1) &&& 6148914691236517205)) 2) &&& 3689348814741910323)) 4)) &&& 1085102592571150095) 8)) + (ushL ((((((v0 - ((ushL v0 1) &&& 6148914691236517205)) &&& 3689348814741910323) + ((ushL (v0 - ((ushL v0 1) &&& 6148914691236517205)) 2) &&& 3689348814741910323)) + (ushL (((v0 - ((ushL v0 1) &&& 6148914691236517205)) &&& 3689348814741910323) + ((ushL (v0 - ((ushL v0 1) &&& 6148914691236517205)) 2) &&& 3689348814741910323)) 4)) &&& 1085102592571150095) + (ushL (((((v0 - ((ushL v0 1) &&& 6148914691236517205)) &&& 3689348814741910323) + ((ushL (v0 - ((ushL v0 1) &&& 6148914691236517205)) 2) &&& 3689348814741910323)) + (ushL (((v0 - ((ushL v0 1) &&& 6148914691236517205)) &&& 3689348814741910323) + ((ushL (v0 - ((ushL v0 1) &&& 6148914691236517205)) 2) &&& 3689348814741910323)) 4)) &&& 1085102592571150095) 8)) 16)) 32))), none]) rfl ?_
  refine r_lload_n dJ13_bitCount_95d88_55 rfl ?_
  refine r_l2i dJ13_bitCount_95d88_56 ?_
  refine r_bipush dJ13_bitCount_95d88_57 (v := 127) rfl ?_
  refine r_iand dJ13_bitCount_95d88_59 ?_
  exact r_ireturn rfl dJ13_bitCount_95d88_60
theorem okJ13_bitCount_95d88 (v0 : Int64) (u : US) : ∀ r, fJ13_bitCount_95d88 v0 u = some r → MetC mJ13_bitCount_95d88 0 [.long v0] u (tI r) :=
  met_of (by decide +kernel) (Nat.le_of_ble_eq_true rfl) rfl (sJ13_bitCount_95d88 v0 u)
def fJ6_bitCount_0f7a4 (v0 : Int32) (u : US) : Option (Int32 × US) :=
  some ((((((((v0 - ((ush v0 1) &&& 1431655765)) &&& 858993459) + ((ush (v0 - ((ush v0 1) &&& 1431655765)) 2) &&& 858993459)) + (ush (((v0 - ((ush v0 1) &&& 1431655765)) &&& 858993459) + ((ush (v0 - ((ush v0 1) &&& 1431655765)) 2) &&& 858993459)) 4)) &&& 252645135) + (ush (((((v0 - ((ush v0 1) &&& 1431655765)) &&& 858993459) + ((ush (v0 - ((ush v0 1) &&& 1431655765)) 2) &&& 858993459)) + (ush (((v0 - ((ush v0 1) &&& 1431655765)) &&& 858993459) + ((ush (v0 - ((ush v0 1) &&& 1431655765)) 2) &&& 858993459)) 4)) &&& 252645135) 8)) + (ush ((((((v0 - ((ush v0 1) &&& 1431655765)) &&& 858993459) + ((ush (v0 - ((ush v0 1) &&& 1431655765)) 2) &&& 858993459)) + (ush (((v0 - ((ush v0 1) &&& 1431655765)) &&& 858993459) + ((ush (v0 - ((ush v0 1) &&& 1431655765)) 2) &&& 858993459)) 4)) &&& 252645135) + (ush (((((v0 - ((ush v0 1) &&& 1431655765)) &&& 858993459) + ((ush (v0 - ((ush v0 1) &&& 1431655765)) 2) &&& 858993459)) + (ush (((v0 - ((ush v0 1) &&& 1431655765)) &&& 858993459) + ((ush (v0 - ((ush v0 1) &&& 1431655765)) 2) &&& 858993459)) 4)) &&& 252645135) 8)) 16)) &&& 63, u)
set_option maxRecDepth 20000 in
theorem sJ6_bitCount_0f7a4 (v0 : Int32) (u : US) : Sim tI mJ6_bitCount_0f7a4 0 (fJ6_bitCount_0f7a4 v0 u) 0 [some (.int v0)] [] u := by
  unfold fJ6_bitCount_0f7a4
  refine r_iload_n dJ6_bitCount_0f7a4_0 rfl ?_
  refine r_iload_n dJ6_bitCount_0f7a4_1 rfl ?_
  refine r_iconst dJ6_bitCount_0f7a4_2 (v := 1) rfl ?_
  refine r_iushr dJ6_bitCount_0f7a4_3 ?_
  refine r_ldc_w dJ6_bitCount_0f7a4_4 kIJ6_265 ?_
  refine r_iand dJ6_bitCount_0f7a4_7 ?_
  refine r_isub dJ6_bitCount_0f7a4_8 ?_
  refine r_istore_n dJ6_bitCount_0f7a4_9 (Nat.le_of_ble_eq_true rfl) (ls2 := [some (.int (v0 - ((ush v0 1) &&& 1431655765)))]) rfl ?_
  refine r_iload_n dJ6_bitCount_0f7a4_10 rfl ?_
  refine r_ldc_w dJ6_bitCount_0f7a4_11 kIJ6_266 ?_
  refine r_iand dJ6_bitCount_0f7a4_14 ?_
  refine r_iload_n dJ6_bitCount_0f7a4_15 rfl ?_
  refine r_iconst dJ6_bitCount_0f7a4_16 (v := 2) rfl ?_
  refine r_iushr dJ6_bitCount_0f7a4_17 ?_
  refine r_ldc_w dJ6_bitCount_0f7a4_18 kIJ6_266 ?_
  refine r_iand dJ6_bitCount_0f7a4_21 ?_
  refine r_iadd dJ6_bitCount_0f7a4_22 ?_
  refine r_istore_n dJ6_bitCount_0f7a4_23 (Nat.le_of_ble_eq_true rfl) (ls2 := [some (.int (((v0 - ((ush v0 1) &&& 1431655765)) &&& 858993459) + ((ush (v0 - ((ush v0 1) &&& 1431655765)) 2) &&& 858993459)))]) rfl ?_
  refine r_iload_n dJ6_bitCount_0f7a4_24 rfl ?_
  refine r_iload_n dJ6_bitCount_0f7a4_25 rfl ?_
  refine r_iconst dJ6_bitCount_0f7a4_26 (v := 4) rfl ?_
  refine r_iushr dJ6_bitCount_0f7a4_27 ?_
  refine r_iadd dJ6_bitCount_0f7a4_28 ?_
  refine r_ldc_w dJ6_bitCount_0f7a4_29 kIJ6_267 ?_
  refine r_iand dJ6_bitCount_0f7a4_32 ?_
  refine r_istore_n dJ6_bitCount_0f7a4_33 (Nat.le_of_ble_eq_true rfl) (ls2 := [some (.int (((((v0 - ((ush v0 1) &&& 1431655765)) &&& 858993459) + ((ush (v0 - ((ush v0 1) &&& 1431655765)) 2) &&& 858993459)) + (ush (((v0 - ((ush v0 1) &&& 1431655765)) &&& 858993459) + ((ush (v0 - ((ush v0 1) &&& 1431655765)) 2) &&& 858993459)) 4)) &&& 252645135))]) rfl ?_
  refine r_iload_n dJ6_bitCount_0f7a4_34 rfl ?_
  refine r_iload_n dJ6_bitCount_0f7a4_35 rfl ?_
  refine r_bipush dJ6_bitCount_0f7a4_36 (v := 8) rfl ?_
  refine r_iushr dJ6_bitCount_0f7a4_38 ?_
  refine r_iadd dJ6_bitCount_0f7a4_39 ?_
  refine r_istore_n dJ6_bitCount_0f7a4_40 (Nat.le_of_ble_eq_true rfl) (ls2 := [some (.int ((((((v0 - ((ush v0 1) &&& 1431655765)) &&& 858993459) + ((ush (v0 - ((ush v0 1) &&& 1431655765)) 2) &&& 858993459)) + (ush (((v0 - ((ush v0 1) &&& 1431655765)) &&& 858993459) + ((ush (v0 - ((ush v0 1) &&& 1431655765)) 2) &&& 858993459)) 4)) &&& 252645135) + (ush (((((v0 - ((ush v0 1) &&& 1431655765)) &&& 858993459) + ((ush (v0 - ((ush v0 1) &&& 1431655765)) 2) &&& 858993459)) + (ush (((v0 - ((ush v0 1) &&& 1431655765)) &&& 858993459) + ((ush (v0 - ((ush v0 1) &&& 1431655765)) 2) &&& 858993459)) 4)) &&& 252645135) 8)))]) rfl ?_
  refine r_iload_n dJ6_bitCount_0f7a4_41 rfl ?_
  refine r_iload_n dJ6_bitCount_0f7a4_42 rfl ?_
  refine r_bipush dJ6_bitCount_0f7a4_43 (v := 16) rfl ?_
  refine r_iushr dJ6_bitCount_0f7a4_45 ?_
  refine r_iadd dJ6_bitCount_0f7a4_46 ?_
  refine r_istore_n dJ6_bitCount_0f7a4_47 (Nat.le_of_ble_eq_true rfl) (ls2 := [some (.int (((((((v0 - ((ush v0 1) &&& 1431655765)) &&& 858993459) + ((ush (v0 - ((ush v0 1) &&& 1431655765)) 2) &&& 858993459)) + (ush (((v0 - ((ush v0 1) &&& 1431655765)) &&& 858993459) + ((ush (v0 - ((ush v0 1) &&& 1431655765)) 2) &&& 858993459)) 4)) &&& 252645135) + (ush (((((v0 - ((ush v0 1) &&& 1431655765)) &&& 858993459) + ((ush (v0 - ((ush v0 1) &&& 1431655765)) 2) &&& 858993459)) + (ush (((v0 - ((ush v0 1) &&& 1431655765)) &&& 858993459) + ((ush (v0 - ((ush v0 1) &&& 1431655765)) 2) &&& 858993459)) 4)) &&& 252645135) 8)) + (ush ((((((v0 - ((ush v0 1) &&& 1431655765)) &&& 858993459) + ((ush (v0 - ((ush v0 1) &&& 1431655765)) 2) &&& 858993459)) + (ush (((v0 - ((ush v0 1) &&& 1431655765)) &&& 858993459) + ((ush (v0 - ((ush v0 1) &&& 1431655765)) 2) &&& 858993459)) 4)) &&& 252645135) + (ush (((((v0 - ((ush v0 1) &&& 1431655765)) &&& 858993459) + ((ush (v0 - ((ush v0 1) &&& 1431655765)) 2) &&& 858993459)) + (ush (((v0 - ((ush v0 1) &&& 1431655765)) &&& 858993459) + ((ush (v0 - ((ush v0 1) &&& 1431655765)) 2) &&& 858993459)) 4)) &&& 252645135) 8)) 16)))]) rfl ?_
  refine r_iload_n dJ6_bitCount_0f7a4_48 rfl ?_
  refine r_bipush dJ6_bitCount_0f7a4_49 (v := 63) rfl ?_
  refine r_iand dJ6_bitCount_0f7a4_51 ?_
  exact r_ireturn rfl dJ6_bitCount_0f7a4_52
theorem okJ6_bitCount_0f7a4 (v0 : Int32) (u : US) : ∀ r, fJ6_bitCount_0f7a4 v0 u = some r → MetC mJ6_bitCount_0f7a4 0 [.int v0] u (tI r) :=
  met_of (by decide +kernel) (Nat.le_of_ble_eq_true rfl) rfl (sJ6_bitCount_0f7a4 v0 u)
def fJ7_fill_53178_5 (v0 : Nat) (v1 : Int32) : Nat → Int32 → Int32 → US → Option (US)
  | 0, _, _, _ => none
  | n + 1, v2, v3, u => (if v3 ≤ v2 then some u else gd (inb v2 (ln v0)) (nx (sA u v0 v2 v1) fun u1 => fJ7_fill_53178_5 v0 v1 n (v2 + 1) v3 u1))
set_option maxRecDepth 20000 in
theorem sJ7_fill_53178_5 (v0 : Nat) (v1 : Int32) (h0 : okA v0 20 = true) : ∀ (n : Nat) (v2 : Int32) (v3 : Int32) (u : US), Sim tV mJ7_fill_53178 0 (fJ7_fill_53178_5 v0 v1 n v2 v3 u) 5 [some (.ref v0), some (.int v1), some (.int v2), some (.int v3)] [] u := by
  intro n
  induction n with
  | zero =>
    intro v2 v3 u
    rw [fJ7_fill_53178_5.eq_1]
    exact r_none
  | succ n ih =>
    intro v2 v3 u
    rw [fJ7_fill_53178_5.eq_2]
    refine r_iload_n dJ7_fill_53178_5 rfl ?_
    refine r_iload_n dJ7_fill_53178_6 rfl ?_
    refine r_icmp_ge dJ7_fill_53178_7 (tgt := 20) rfl ?_ ?_
    · exact r_return rfl dJ7_fill_53178_20
    · refine r_aload_n dJ7_fill_53178_10 rfl ?_
      refine r_iload_n dJ7_fill_53178_11 rfl ?_
      refine r_iload_n dJ7_fill_53178_12 rfl ?_
      refine r_iast v0 h0 dJ7_fill_53178_13 (r_nx (fun u1 => ?_))
      refine r_iinc dJ7_fill_53178_14 (Nat.le_of_ble_eq_true rfl) rfl (v := v2 + 1) rfl (ls2 := [some (.ref v0), some (.int v1), some (.int (v2 + 1)), some (.int v3)]) rfl ?_
      refine r_goto dJ7_fill_53178_17 (tgt := 5) rfl ?_
      exact ih (v2 + 1) v3 u1
def fJ7_fill_53178 (v0 : Nat) (v1 : Int32) (u : US) : Option (US) :=
  gd (okA v0 20) (fJ7_fill_53178_5 v0 v1 FU 0 (Int32.ofNat (ln v0)) u)
set_option maxRecDepth 20000 in
theorem sJ7_fill_53178 (v0 : Nat) (v1 : Int32) (u : US) : Sim tV mJ7_fill_53178 0 (fJ7_fill_53178 v0 v1 u) 0 [some (.ref v0), some (.int v1), none, none] [] u := by
  unfold fJ7_fill_53178
  refine r_gd (fun h0 => ?_)
  refine r_iconst dJ7_fill_53178_0 (v := 0) rfl ?_
  refine r_istore_n dJ7_fill_53178_1 (Nat.le_of_ble_eq_true rfl) (ls2 := [some (.ref v0), some (.int v1), some (.int 0), none]) rfl ?_
  refine r_aload_n dJ7_fill_53178_2 rfl ?_
  refine r_alen v0 h0 dJ7_fill_53178_3 ?_
  refine r_istore_n dJ7_fill_53178_4 (Nat.le_of_ble_eq_true rfl) (ls2 := [some (.ref v0), some (.int v1), some (.int 0), some (.int (Int32.ofNat (ln v0)))]) rfl ?_
  exact sJ7_fill_53178_5 v0 v1 h0 FU 0 (Int32.ofNat (ln v0)) u
theorem okJ7_fill_53178 (v0 : Nat) (v1 : Int32) (u : US) : ∀ r, fJ7_fill_53178 v0 v1 u = some r → MetC mJ7_fill_53178 0 [.ref v0, .int v1] u (tV r) :=
  met_of (by decide +kernel) (Nat.le_of_ble_eq_true rfl) rfl (sJ7_fill_53178 v0 v1 u)
def fX0_add (v1 : Int32) (u : US) : Option (US) :=
  (if (8 : Int32) ≤ (gI u 12 2) then some u else gd (inb (gI u 12 2) 8) (nx (sA u 41 (gI u 12 2) v1) fun u1 => nx (sI u1 12 2 ((gI u1 12 2) + 1)) fun u2 => some u2))
set_option maxRecDepth 20000 in
theorem sX0_add (v1 : Int32) (u : US) : Sim tV mX0_add 0 (fX0_add v1 u) 0 [some (.ref 12), some (.int v1)] [] u := by
  unfold fX0_add
  refine r_aload_n dX0_add_0 rfl ?_
  refine r_get 12 2 flX0_18 rfl (v := .int (gI u 12 2)) rfl dX0_add_1 ?_
  refine r_bipush dX0_add_4 (v := 8) rfl ?_
  refine r_icmp_ge dX0_add_6 (tgt := 29) rfl ?_ ?_
  · exact r_return rfl dX0_add_29
  · refine r_aload_n dX0_add_9 rfl ?_
    refine r_get 12 0 flX0_9 rfl (v := .ref 41) rfl dX0_add_10 ?_
    refine r_aload_n dX0_add_13 rfl ?_
    refine r_get 12 2 flX0_18 rfl (v := .int (gI u 12 2)) rfl dX0_add_14 ?_
    refine r_iload_n dX0_add_17 rfl ?_
    refine r_iast 41 rfl dX0_add_18 (r_nx (fun u1 => ?_))
    refine r_aload_n dX0_add_19 rfl ?_
    refine r_dup dX0_add_20 rfl ?_
    refine r_get 12 2 flX0_18 rfl (v := .int (gI u1 12 2)) rfl dX0_add_21 ?_
    refine r_iconst dX0_add_24 (v := 1) rfl ?_
    refine r_iadd dX0_add_25 ?_
    refine r_put 12 2 fpX0_18 rfl rfl dX0_add_26 (r_nx (fun u2 => ?_))
    exact r_return rfl dX0_add_29
theorem okX0_add (v1 : Int32) (u : US) : ∀ r, fX0_add v1 u = some r → MetC mX0_add 0 [.ref 12, .int v1] u (tV r) :=
  met_of (by decide +kernel) (Nat.le_of_ble_eq_true rfl) rfl (sX0_add v1 u)
def fX0_clear (u : US) : Option (US) :=
  nx (sI u 12 2 0) fun u1 => some u1
set_option maxRecDepth 20000 in
theorem sX0_clear (u : US) : Sim tV mX0_clear 0 (fX0_clear u) 0 [some (.ref 12)] [] u := by
  unfold fX0_clear
  refine r_aload_n dX0_clear_0 rfl ?_
  refine r_iconst dX0_clear_1 (v := 0) rfl ?_
  refine r_put 12 2 fpX0_18 rfl rfl dX0_clear_2 (r_nx (fun u1 => ?_))
  exact r_return rfl dX0_clear_5
theorem okX0_clear (u : US) : ∀ r, fX0_clear u = some r → MetC mX0_clear 0 [.ref 12] u (tV r) :=
  met_of (by decide +kernel) (Nat.le_of_ble_eq_true rfl) rfl (sX0_clear u)
def fX11_has (v0 : Int32) (v1 : Int32) (u : US) : Option (Int32 × US) :=
  (if ((ush v0 v1) &&& 1) = 0 then some (0, u) else some (1, u))
set_option maxRecDepth 20000 in
theorem sX11_has (v0 : Int32) (v1 : Int32) (u : US) : Sim tI mX11_has 0 (fX11_has v0 v1 u) 0 [some (.int v0), some (.int v1)] [] u := by
  unfold fX11_has
  refine r_iload_n dX11_has_0 rfl ?_
  refine r_iload_n dX11_has_1 rfl ?_
  refine r_iushr dX11_has_2 ?_
  refine r_iconst dX11_has_3 (v := 1) rfl ?_
  refine r_iand dX11_has_4 ?_
  refine r_if_eq dX11_has_5 (tgt := 12) rfl ?_ ?_
  · refine r_iconst dX11_has_12 (v := 0) rfl ?_
    exact r_zreturn0 rfl dX11_has_13
  · refine r_iconst dX11_has_8 (v := 1) rfl ?_
    refine r_goto dX11_has_9 (tgt := 13) rfl ?_
    exact r_zreturn1 rfl dX11_has_13
theorem okX11_has (v0 : Int32) (v1 : Int32) (u : US) : ∀ r, fX11_has v0 v1 u = some r → MetC mX11_has 0 [.int v0, .int v1] u (tI r) :=
  met_of (by decide +kernel) (Nat.le_of_ble_eq_true rfl) rfl (sX11_has v0 v1 u)
def fX0_finds_95 (gX0_finds : Int32 → Int32 → Int32 → US → Option (Int32 × US)) (v1 : Int32) (v2 : Int32) (v3 : Int32) (v4 : Int32) (u : US) : Option (Int32 × US) :=
  gd (inb v4 8) (nx (sA u 42 v4 v1) fun u1 => some (1, u1))
set_option maxRecDepth 20000 in
theorem sX0_finds_95 {dd : Nat} (gX0_finds : Int32 → Int32 → Int32 → US → Option (Int32 × US)) (hgX0_finds : ∀ (v1 : Int32) (v2 : Int32) (v3 : Int32) (u : US), ∀ r, gX0_finds v1 v2 v3 u = some r → MetC mX0_finds dd [.ref 12, .int v1, .int v2, .int v3] u (tI r)) (hD : 3 ≤ dd) (v1 : Int32) (v2 : Int32) (v3 : Int32) (v4 : Int32) (u : US) : Sim tI mX0_finds (dd + 1) (fX0_finds_95 gX0_finds v1 v2 v3 v4 u) 95 [some (.ref 12), some (.int v1), some (.int v2), some (.int v3), some (.int v4)] [] u := by
  unfold fX0_finds_95
  refine r_aload_n dX0_finds_95 rfl ?_
  refine r_get 12 1 flX0_15 rfl (v := .ref 42) rfl dX0_finds_96 ?_
  refine r_iload dX0_finds_99 rfl ?_
  refine r_iload_n dX0_finds_101 rfl ?_
  refine r_iast 42 rfl dX0_finds_102 (r_nx (fun u1 => ?_))
  refine r_iconst dX0_finds_103 (v := 1) rfl ?_
  exact r_zreturn1 rfl dX0_finds_104
def fX0_finds_23 (gX0_finds : Int32 → Int32 → Int32 → US → Option (Int32 × US)) (v1 : Int32) (v2 : Int32) (v3 : Int32) : Nat → Int32 → US → Option (Int32 × US)
  | 0, _, _ => none
  | n + 1, v4, u => (if (8 : Int32) ≤ v4 then some (0, u) else gd (inb v1 8) (oB (fX11_has (((gA u 41 v1) &&& v2) &&& ((gI u 12 3) ^^^ (-1))) v4 u) fun r1 u1 => (if r1 = 0 then fX0_finds_23 gX0_finds v1 v2 v3 n (v4 + 1) u1 else nx (sI u1 12 3 ((gI u1 12 3) ||| (1 <<< (v4 &&& 31)))) fun u2 => gd (inb v4 8) ((if (gA u2 42 v4) = (-1) then fX0_finds_95 gX0_finds v1 v2 v3 v4 u2 else gd (inb v4 8) (oB (gX0_finds (gA u2 42 v4) v2 (v3 + 1) u2) fun r3 u3 => (if r3 = 0 then fX0_finds_23 gX0_finds v1 v2 v3 n (v4 + 1) u3 else fX0_finds_95 gX0_finds v1 v2 v3 v4 u3)))))))
set_option maxRecDepth 20000 in
theorem sX0_finds_23 {dd : Nat} (gX0_finds : Int32 → Int32 → Int32 → US → Option (Int32 × US)) (hgX0_finds : ∀ (v1 : Int32) (v2 : Int32) (v3 : Int32) (u : US), ∀ r, gX0_finds v1 v2 v3 u = some r → MetC mX0_finds dd [.ref 12, .int v1, .int v2, .int v3] u (tI r)) (hD : 3 ≤ dd) (v1 : Int32) (v2 : Int32) (v3 : Int32) : ∀ (n : Nat) (v4 : Int32) (u : US), Sim tI mX0_finds (dd + 1) (fX0_finds_23 gX0_finds v1 v2 v3 n v4 u) 23 [some (.ref 12), some (.int v1), some (.int v2), some (.int v3), some (.int v4)] [] u := by
  intro n
  induction n with
  | zero =>
    intro v4 u
    rw [fX0_finds_23.eq_1]
    exact r_none
  | succ n ih =>
    intro v4 u
    rw [fX0_finds_23.eq_2]
    refine r_iload dX0_finds_23 rfl ?_
    refine r_bipush dX0_finds_25 (v := 8) rfl ?_
    refine r_icmp_ge dX0_finds_27 (tgt := 111) rfl ?_ ?_
    · refine r_iconst dX0_finds_111 (v := 0) rfl ?_
      exact r_zreturn0 rfl dX0_finds_112
    · refine r_aload_n dX0_finds_30 rfl ?_
      refine r_get 12 0 flX0_9 rfl (v := .ref 41) rfl dX0_finds_31 ?_
      refine r_iload_n dX0_finds_34 rfl ?_
      refine r_iald 41 rfl dX0_finds_35 ?_
      refine r_iload_n dX0_finds_36 rfl ?_
      refine r_iand dX0_finds_37 ?_
      refine r_aload_n dX0_finds_38 rfl ?_
      refine r_get 12 3 flX0_53 rfl (v := .int (gI u 12 3)) rfl dX0_finds_39 ?_
      refine r_iconst dX0_finds_42 (v := -1) rfl ?_
      refine r_ixor dX0_finds_43 ?_
      refine r_iand dX0_finds_44 ?_
      refine r_iload dX0_finds_45 rfl ?_
      refine c_NI (As := [.int (((gA u 41 v1) &&& v2) &&& ((gI u 12 3) ^^^ (-1))), .int v4]) knX0_43 (by omega) (okX11_has (((gA u 41 v1) &&& v2) &&& ((gI u 12 3) ^^^ (-1))) v4 u) rfl (Nat.le_of_ble_eq_true rfl) rfl dX0_finds_47 (fun r1 u1 => ?_)
      refine r_if_eq dX0_finds_50 (tgt := 105) rfl ?_ ?_
      · refine r_iinc dX0_finds_105 (Nat.le_of_ble_eq_true rfl) rfl (v := v4 + 1) rfl (ls2 := [some (.ref 12), some (.int v1), some (.int v2), some (.int v3), some (.int (v4 + 1))]) rfl ?_
        refine r_goto dX0_finds_108 (tgt := 23) rfl ?_
        exact ih (v4 + 1) u1
      · refine r_aload_n dX0_finds_53 rfl ?_
        refine r_dup dX0_finds_54 rfl ?_
        refine r_get 12 3 flX0_53 rfl (v := .int (gI u1 12 3)) rfl dX0_finds_55 ?_
        refine r_iconst dX0_finds_58 (v := 1) rfl ?_
        refine r_iload dX0_finds_59 rfl ?_
        refine r_ishl dX0_finds_61 ?_
        refine r_ior dX0_finds_62 ?_
        refine r_put 12 3 fpX0_53 rfl rfl dX0_finds_63 (r_nx (fun u2 => ?_))
        refine r_aload_n dX0_finds_66 rfl ?_
        refine r_get 12 1 flX0_15 rfl (v := .ref 42) rfl dX0_finds_67 ?_
        refine r_iload dX0_finds_70 rfl ?_
        refine r_iald 42 rfl dX0_finds_72 ?_
        refine r_iconst dX0_finds_73 (v := -1) rfl ?_
        refine r_icmp_eq dX0_finds_74 (tgt := 95) rfl ?_ ?_
        · exact sX0_finds_95 gX0_finds hgX0_finds hD v1 v2 v3 v4 u2
        · refine r_aload_n dX0_finds_77 rfl ?_
          refine r_aload_n dX0_finds_78 rfl ?_
          refine r_get 12 1 flX0_15 rfl (v := .ref 42) rfl dX0_finds_79 ?_
          refine r_iload dX0_finds_82 rfl ?_
          refine r_iald 42 rfl dX0_finds_84 ?_
          refine r_iload_n dX0_finds_85 rfl ?_
          refine r_iload_n dX0_finds_86 rfl ?_
          refine r_iconst dX0_finds_87 (v := 1) rfl ?_
          refine r_iadd dX0_finds_88 ?_
          refine c_VI (As := [.int (gA u2 42 v4), .int v2, .int (v3 + 1)]) kvX0_56 rfl (by omega) (hgX0_finds (gA u2 42 v4) v2 (v3 + 1) u2) rfl (Nat.le_of_ble_eq_true rfl) rfl dX0_finds_89 (fun r3 u3 => ?_)
          refine r_if_eq dX0_finds_92 (tgt := 105) rfl ?_ ?_
          · refine r_iinc dX0_finds_105 (Nat.le_of_ble_eq_true rfl) rfl (v := v4 + 1) rfl (ls2 := [some (.ref 12), some (.int v1), some (.int v2), some (.int v3), some (.int (v4 + 1))]) rfl ?_
            refine r_goto dX0_finds_108 (tgt := 23) rfl ?_
            exact ih (v4 + 1) u3
          · exact sX0_finds_95 gX0_finds hgX0_finds hD v1 v2 v3 v4 u3
def GX0_finds (gX0_finds : Int32 → Int32 → Int32 → US → Option (Int32 × US)) (v1 : Int32) (v2 : Int32) (v3 : Int32) (u : US) : Option (Int32 × US) :=
  (if (8 : Int32) < v3 then some (0, u) else (if v1 < 0 then some (0, u) else (if v1 < (gI u 12 2) then fX0_finds_23 gX0_finds v1 v2 v3 FU 0 u else some (0, u))))
set_option maxRecDepth 20000 in
theorem sX0_finds {dd : Nat} (gX0_finds : Int32 → Int32 → Int32 → US → Option (Int32 × US)) (hgX0_finds : ∀ (v1 : Int32) (v2 : Int32) (v3 : Int32) (u : US), ∀ r, gX0_finds v1 v2 v3 u = some r → MetC mX0_finds dd [.ref 12, .int v1, .int v2, .int v3] u (tI r)) (hD : 3 ≤ dd) (v1 : Int32) (v2 : Int32) (v3 : Int32) (u : US) : Sim tI mX0_finds (dd + 1) (GX0_finds gX0_finds v1 v2 v3 u) 0 [some (.ref 12), some (.int v1), some (.int v2), some (.int v3), none] [] u := by
  unfold GX0_finds
  refine r_iload_n dX0_finds_0 rfl ?_
  refine r_bipush dX0_finds_1 (v := 8) rfl ?_
  refine r_icmp_gt dX0_finds_3 (tgt := 18) rfl ?_ ?_
  · refine r_iconst dX0_finds_18 (v := 0) rfl ?_
    exact r_zreturn0 rfl dX0_finds_19
  · refine r_iload_n dX0_finds_6 rfl ?_
    refine r_if_lt dX0_finds_7 (tgt := 18) rfl ?_ ?_
    · refine r_iconst dX0_finds_18 (v := 0) rfl ?_
      exact r_zreturn0 rfl dX0_finds_19
    · refine r_iload_n dX0_finds_10 rfl ?_
      refine r_aload_n dX0_finds_11 rfl ?_
      refine r_get 12 2 flX0_18 rfl (v := .int (gI u 12 2)) rfl dX0_finds_12 ?_
      refine r_icmp_lt dX0_finds_15 (tgt := 20) rfl ?_ ?_
      · refine r_iconst dX0_finds_20 (v := 0) rfl ?_
        refine r_istore dX0_finds_21 (Nat.le_of_ble_eq_true rfl) (ls2 := [some (.ref 12), some (.int v1), some (.int v2), some (.int v3), some (.int 0)]) rfl ?_
        exact sX0_finds_23 gX0_finds hgX0_finds hD v1 v2 v3 FU 0 u
      · refine r_iconst dX0_finds_18 (v := 0) rfl ?_
        exact r_zreturn0 rfl dX0_finds_19
theorem okX0_finds {dd : Nat} (gX0_finds : Int32 → Int32 → Int32 → US → Option (Int32 × US)) (hgX0_finds : ∀ (v1 : Int32) (v2 : Int32) (v3 : Int32) (u : US), ∀ r, gX0_finds v1 v2 v3 u = some r → MetC mX0_finds dd [.ref 12, .int v1, .int v2, .int v3] u (tI r)) (hD : 3 ≤ dd) (v1 : Int32) (v2 : Int32) (v3 : Int32) (u : US) : ∀ r, GX0_finds gX0_finds v1 v2 v3 u = some r → MetC mX0_finds (dd + 1) [.ref 12, .int v1, .int v2, .int v3] u (tI r) :=
  met_of (by decide +kernel) (Nat.le_of_ble_eq_true rfl) rfl (sX0_finds gX0_finds hgX0_finds hD v1 v2 v3 u)
def fX0_finds : Nat → Int32 → Int32 → Int32 → US → Option (Int32 × US)
  | 0 => fun _ _ _ _ => none
  | n + 1 => GX0_finds (fX0_finds n)
theorem ok_X0_finds : ∀ (n : Nat) (v1 : Int32) (v2 : Int32) (v3 : Int32) (u : US), ∀ r, fX0_finds n v1 v2 v3 u = some r → MetC mX0_finds (3 + n * 1) [.ref 12, .int v1, .int v2, .int v3] u (tI r) := by
  intro n
  induction n with
  | zero => intro v1 v2 v3 u r h; cases h
  | succ n ih =>
    intro v1 v2 v3 u r h
    have := okX0_finds (dd := 3 + n * 1) (fX0_finds n) ih (by omega) v1 v2 v3 u r h
    rw [show 3 + (n + 1) * 1 = 3 + n * 1 + 1 by omega]
    exact this
def fX0_served_13 (v1 : Int32) (v2 : Int32) : Nat → Int32 → Int32 → US → Option (Int32 × US)
  | 0, _, _, _ => none
  | n + 1, v3, v4, u => (if (gI u 12 2) ≤ v4 then some (v3, u) else nx (sI u 12 3 0) fun u1 => oB (fX0_finds 12 v4 v2 0 u1) fun r2 u2 => (if r2 = 0 then fX0_served_13 v1 v2 n v3 (v4 + 1) u2 else fX0_served_13 v1 v2 n (v3 + 1) (v4 + 1) u2))
set_option maxRecDepth 20000 in
theorem sX0_served_13 (v1 : Int32) (v2 : Int32) : ∀ (n : Nat) (v3 : Int32) (v4 : Int32) (u : US), Sim tI mX0_served 401 (fX0_served_13 v1 v2 n v3 v4 u) 13 [some (.ref 12), some (.int v1), some (.int v2), some (.int v3), some (.int v4)] [] u := by
  intro n
  induction n with
  | zero =>
    intro v3 v4 u
    rw [fX0_served_13.eq_1]
    exact r_none
  | succ n ih =>
    intro v3 v4 u
    rw [fX0_served_13.eq_2]
    refine r_iload dX0_served_13 rfl ?_
    refine r_aload_n dX0_served_15 rfl ?_
    refine r_get 12 2 flX0_18 rfl (v := .int (gI u 12 2)) rfl dX0_served_16 ?_
    refine r_icmp_ge dX0_served_19 (tgt := 47) rfl ?_ ?_
    · refine r_iload_n dX0_served_47 rfl ?_
      exact r_ireturn rfl dX0_served_48
    · refine r_aload_n dX0_served_22 rfl ?_
      refine r_iconst dX0_served_23 (v := 0) rfl ?_
      refine r_put 12 3 fpX0_53 rfl rfl dX0_served_24 (r_nx (fun u1 => ?_))
      refine r_aload_n dX0_served_27 rfl ?_
      refine r_iload dX0_served_28 rfl ?_
      refine r_iload_n dX0_served_30 rfl ?_
      refine r_iconst dX0_served_31 (v := 0) rfl ?_
      refine c_VI (As := [.int v4, .int v2, .int 0]) kvX0_56 rfl (by decide) (ok_X0_finds 12 v4 v2 0 u1) rfl (Nat.le_of_ble_eq_true rfl) rfl dX0_served_32 (fun r2 u2 => ?_)
      refine r_if_eq dX0_served_35 (tgt := 41) rfl ?_ ?_
      · refine r_iinc dX0_served_41 (Nat.le_of_ble_eq_true rfl) rfl (v := v4 + 1) rfl (ls2 := [some (.ref 12), some (.int v1), some (.int v2), some (.int v3), some (.int (v4 + 1))]) rfl ?_
        refine r_goto dX0_served_44 (tgt := 13) rfl ?_
        exact ih v3 (v4 + 1) u2
      · refine r_iinc dX0_served_38 (Nat.le_of_ble_eq_true rfl) rfl (v := v3 + 1) rfl (ls2 := [some (.ref 12), some (.int v1), some (.int v2), some (.int (v3 + 1)), some (.int v4)]) rfl ?_
        refine r_iinc dX0_served_41 (Nat.le_of_ble_eq_true rfl) rfl (v := v4 + 1) rfl (ls2 := [some (.ref 12), some (.int v1), some (.int v2), some (.int (v3 + 1)), some (.int (v4 + 1))]) rfl ?_
        refine r_goto dX0_served_44 (tgt := 13) rfl ?_
        exact ih (v3 + 1) (v4 + 1) u2
def fX0_served (v1 : Int32) (v2 : Int32) (u : US) : Option (Int32 × US) :=
  oV (fJ7_fill_53178 42 (-1) u) fun u1 => fX0_served_13 v1 v2 FU 0 v1 u1
set_option maxRecDepth 20000 in
theorem sX0_served (v1 : Int32) (v2 : Int32) (u : US) : Sim tI mX0_served 401 (fX0_served v1 v2 u) 0 [some (.ref 12), some (.int v1), some (.int v2), none, none] [] u := by
  unfold fX0_served
  refine r_aload_n dX0_served_0 rfl ?_
  refine r_get 12 1 flX0_15 rfl (v := .ref 42) rfl dX0_served_1 ?_
  refine r_iconst dX0_served_4 (v := -1) rfl ?_
  refine c_SV (As := [.ref 42, .int (-1)]) ksX0_47 (by decide) (okJ7_fill_53178 42 (-1) u) rfl (Nat.le_of_ble_eq_true rfl) rfl dX0_served_5 (fun u1 => ?_)
  refine r_iconst dX0_served_8 (v := 0) rfl ?_
  refine r_istore_n dX0_served_9 (Nat.le_of_ble_eq_true rfl) (ls2 := [some (.ref 12), some (.int v1), some (.int v2), some (.int 0), none]) rfl ?_
  refine r_iload_n dX0_served_10 rfl ?_
  refine r_istore dX0_served_11 (Nat.le_of_ble_eq_true rfl) (ls2 := [some (.ref 12), some (.int v1), some (.int v2), some (.int 0), some (.int v1)]) rfl ?_
  exact sX0_served_13 v1 v2 FU 0 v1 u1
theorem okX0_served (v1 : Int32) (v2 : Int32) (u : US) : ∀ r, fX0_served v1 v2 u = some r → MetC mX0_served 401 [.ref 12, .int v1, .int v2] u (tI r) :=
  met_of (by decide +kernel) (Nat.le_of_ble_eq_true rfl) rfl (sX0_served v1 v2 u)
def fX0_leastFor_17 (v1 : Int32) (v2 : Int32) (v3 : Int32) : Nat → Int32 → US → Option (Int32 × US)
  | 0, _, _ => none
  | n + 1, v4, u => (if (8 : Int32) ≤ v4 then some ((-1), u) else gd (inb v1 8) (oB (fX11_has ((gA u 41 v1) &&& v2) v4 u) fun r1 u1 => (if r1 = 0 then fX0_leastFor_17 v1 v2 v3 n (v4 + 1) u1 else oB (fX0_served (v1 + 1) (v2 &&& ((1 <<< (v4 &&& 31)) ^^^ (-1))) u1) fun r2 u2 => (if r2 < (v3 - 1) then fX0_leastFor_17 v1 v2 v3 n (v4 + 1) u2 else some (v4, u2)))))
set_option maxRecDepth 20000 in
theorem sX0_leastFor_17 (v1 : Int32) (v2 : Int32) (v3 : Int32) : ∀ (n : Nat) (v4 : Int32) (u : US), Sim tI mX0_leastFor 402 (fX0_leastFor_17 v1 v2 v3 n v4 u) 17 [some (.ref 12), some (.int v1), some (.int v2), some (.int v3), some (.int v4), none] [] u := by
  intro n
  induction n with
  | zero =>
    intro v4 u
    rw [fX0_leastFor_17.eq_1]
    exact r_none
  | succ n ih =>
    intro v4 u
    rw [fX0_leastFor_17.eq_2]
    refine r_iload dX0_leastFor_17 rfl ?_
    refine r_bipush dX0_leastFor_19 (v := 8) rfl ?_
    refine r_icmp_ge dX0_leastFor_21 (tgt := 74) rfl ?_ ?_
    · refine r_iconst dX0_leastFor_74 (v := -1) rfl ?_
      exact r_ireturn rfl dX0_leastFor_75
    · refine r_aload_n dX0_leastFor_24 rfl ?_
      refine r_get 12 0 flX0_9 rfl (v := .ref 41) rfl dX0_leastFor_25 ?_
      refine r_iload_n dX0_leastFor_28 rfl ?_
      refine r_iald 41 rfl dX0_leastFor_29 ?_
      refine r_iload_n dX0_leastFor_30 rfl ?_
      refine r_iand dX0_leastFor_31 ?_
      refine r_iload dX0_leastFor_32 rfl ?_
      refine c_NI (As := [.int ((gA u 41 v1) &&& v2), .int v4]) knX0_43 (by decide) (okX11_has ((gA u 41 v1) &&& v2) v4 u) rfl (Nat.le_of_ble_eq_true rfl) rfl dX0_leastFor_34 (fun r1 u1 => ?_)
      refine r_istore dX0_leastFor_37 (Nat.le_of_ble_eq_true rfl) (ls2 := [some (.ref 12), some (.int v1), some (.int v2), some (.int v3), some (.int v4), some (.int r1)]) rfl ?_
      refine r_iload dX0_leastFor_39 rfl ?_
      refine r_if_eq dX0_leastFor_41 (tgt := 68) rfl ?_ ?_
      · refine r_iinc dX0_leastFor_68 (Nat.le_of_ble_eq_true rfl) rfl (v := v4 + 1) rfl (ls2 := [some (.ref 12), some (.int v1), some (.int v2), some (.int v3), some (.int (v4 + 1)), some (.int r1)]) rfl ?_
        refine r_goto dX0_leastFor_71 (tgt := 17) rfl ?_
        refine r_mk [true, true, true, true, true, false] (ls2 := [some (.ref 12), some (.int v1), some (.int v2), some (.int v3), some (.int (v4 + 1)), none]) rfl ?_
        exact ih (v4 + 1) u1
      · refine r_aload_n dX0_leastFor_44 rfl ?_
        refine r_iload_n dX0_leastFor_45 rfl ?_
        refine r_iconst dX0_leastFor_46 (v := 1) rfl ?_
        refine r_iadd dX0_leastFor_47 ?_
        refine r_iload_n dX0_leastFor_48 rfl ?_
        refine r_iconst dX0_leastFor_49 (v := 1) rfl ?_
        refine r_iload dX0_leastFor_50 rfl ?_
        refine r_ishl dX0_leastFor_52 ?_
        refine r_iconst dX0_leastFor_53 (v := -1) rfl ?_
        refine r_ixor dX0_leastFor_54 ?_
        refine r_iand dX0_leastFor_55 ?_
        refine c_VI (As := [.int (v1 + 1), .int (v2 &&& ((1 <<< (v4 &&& 31)) ^^^ (-1)))]) kvX0_26 rfl (by decide) (okX0_served (v1 + 1) (v2 &&& ((1 <<< (v4 &&& 31)) ^^^ (-1))) u1) rfl (Nat.le_of_ble_eq_true rfl) rfl dX0_leastFor_56 (fun r2 u2 => ?_)
        refine r_iload_n dX0_leastFor_59 rfl ?_
        refine r_iconst dX0_leastFor_60 (v := 1) rfl ?_
        refine r_isub dX0_leastFor_61 ?_
        refine r_icmp_lt dX0_leastFor_62 (tgt := 68) rfl ?_ ?_
        · refine r_iinc dX0_leastFor_68 (Nat.le_of_ble_eq_true rfl) rfl (v := v4 + 1) rfl (ls2 := [some (.ref 12), some (.int v1), some (.int v2), some (.int v3), some (.int (v4 + 1)), some (.int r1)]) rfl ?_
          refine r_goto dX0_leastFor_71 (tgt := 17) rfl ?_
          refine r_mk [true, true, true, true, true, false] (ls2 := [some (.ref 12), some (.int v1), some (.int v2), some (.int v3), some (.int (v4 + 1)), none]) rfl ?_
          exact ih (v4 + 1) u2
        · refine r_iload dX0_leastFor_65 rfl ?_
          exact r_ireturn rfl dX0_leastFor_67
def fX0_leastFor (v1 : Int32) (v2 : Int32) (v3 : Int32) (u : US) : Option (Int32 × US) :=
  oB (fX0_served (v1 + 1) v2 u) fun r1 u1 => (if r1 < v3 then fX0_leastFor_17 v1 v2 v3 FU 0 u1 else some ((-1), u1))
set_option maxRecDepth 20000 in
theorem sX0_leastFor (v1 : Int32) (v2 : Int32) (v3 : Int32) (u : US) : Sim tI mX0_leastFor 402 (fX0_leastFor v1 v2 v3 u) 0 [some (.ref 12), some (.int v1), some (.int v2), some (.int v3), none, none] [] u := by
  unfold fX0_leastFor
  refine r_aload_n dX0_leastFor_0 rfl ?_
  refine r_iload_n dX0_leastFor_1 rfl ?_
  refine r_iconst dX0_leastFor_2 (v := 1) rfl ?_
  refine r_iadd dX0_leastFor_3 ?_
  refine r_iload_n dX0_leastFor_4 rfl ?_
  refine c_VI (As := [.int (v1 + 1), .int v2]) kvX0_26 rfl (by decide) (okX0_served (v1 + 1) v2 u) rfl (Nat.le_of_ble_eq_true rfl) rfl dX0_leastFor_5 (fun r1 u1 => ?_)
  refine r_iload_n dX0_leastFor_8 rfl ?_
  refine r_icmp_lt dX0_leastFor_9 (tgt := 14) rfl ?_ ?_
  · refine r_iconst dX0_leastFor_14 (v := 0) rfl ?_
    refine r_istore dX0_leastFor_15 (Nat.le_of_ble_eq_true rfl) (ls2 := [some (.ref 12), some (.int v1), some (.int v2), some (.int v3), some (.int 0), none]) rfl ?_
    exact sX0_leastFor_17 v1 v2 v3 FU 0 u1
  · refine r_iconst dX0_leastFor_12 (v := -1) rfl ?_
    exact r_ireturn rfl dX0_leastFor_13
theorem okX0_leastFor (v1 : Int32) (v2 : Int32) (v3 : Int32) (u : US) : ∀ r, fX0_leastFor v1 v2 v3 u = some r → MetC mX0_leastFor 402 [.ref 12, .int v1, .int v2, .int v3] u (tI r) :=
  met_of (by decide +kernel) (Nat.le_of_ble_eq_true rfl) rfl (sX0_leastFor v1 v2 v3 u)
def fX11_allOf (v0 : Int32) (u : US) : Option (Int32 × US) :=
  some ((1 <<< (v0 &&& 31)) - 1, u)
set_option maxRecDepth 20000 in
theorem sX11_allOf (v0 : Int32) (u : US) : Sim tI mX11_allOf 0 (fX11_allOf v0 u) 0 [some (.int v0)] [] u := by
  unfold fX11_allOf
  refine r_iconst dX11_allOf_0 (v := 1) rfl ?_
  refine r_iload_n dX11_allOf_1 rfl ?_
  refine r_ishl dX11_allOf_2 ?_
  refine r_iconst dX11_allOf_3 (v := 1) rfl ?_
  refine r_isub dX11_allOf_4 ?_
  exact r_ireturn rfl dX11_allOf_5
theorem okX11_allOf (v0 : Int32) (u : US) : ∀ r, fX11_allOf v0 u = some r → MetC mX11_allOf 0 [.int v0] u (tI r) :=
  met_of (by decide +kernel) (Nat.le_of_ble_eq_true rfl) rfl (sX11_allOf v0 u)
def fX2_add (v1 : Int64) (u : US) : Option (US) :=
  (if (36 : Int32) ≤ (gI u 8 1) then some u else gd (inb (gI u 8 1) 36) (nx (sJ u 33 (gI u 8 1) v1) fun u1 => nx (sI u1 8 1 ((gI u1 8 1) + 1)) fun u2 => some u2))
set_option maxRecDepth 20000 in
theorem sX2_add (v1 : Int64) (u : US) : Sim tV mX2_add 0 (fX2_add v1 u) 0 [some (.ref 8), some (.long v1), none] [] u := by
  unfold fX2_add
  refine r_aload_n dX2_add_0 rfl ?_
  refine r_get 8 1 flX2_15 rfl (v := .int (gI u 8 1)) rfl dX2_add_1 ?_
  refine r_bipush dX2_add_4 (v := 36) rfl ?_
  refine r_icmp_ge dX2_add_6 (tgt := 29) rfl ?_ ?_
  · exact r_return rfl dX2_add_29
  · refine r_aload_n dX2_add_9 rfl ?_
    refine r_get 8 0 flX2_9 rfl (v := .ref 33) rfl dX2_add_10 ?_
    refine r_aload_n dX2_add_13 rfl ?_
    refine r_get 8 1 flX2_15 rfl (v := .int (gI u 8 1)) rfl dX2_add_14 ?_
    refine r_lload_n dX2_add_17 rfl ?_
    refine r_last 33 rfl dX2_add_18 (r_nx (fun u1 => ?_))
    refine r_aload_n dX2_add_19 rfl ?_
    refine r_dup dX2_add_20 rfl ?_
    refine r_get 8 1 flX2_15 rfl (v := .int (gI u1 8 1)) rfl dX2_add_21 ?_
    refine r_iconst dX2_add_24 (v := 1) rfl ?_
    refine r_iadd dX2_add_25 ?_
    refine r_put 8 1 fpX2_15 rfl rfl dX2_add_26 (r_nx (fun u2 => ?_))
    exact r_return rfl dX2_add_29
theorem okX2_add (v1 : Int64) (u : US) : ∀ r, fX2_add v1 u = some r → MetC mX2_add 0 [.ref 8, .long v1] u (tV r) :=
  met_of (by decide +kernel) (Nat.le_of_ble_eq_true rfl) rfl (sX2_add v1 u)
def fX2_clear (u : US) : Option (US) :=
  nx (sI u 8 1 0) fun u1 => some u1
set_option maxRecDepth 20000 in
theorem sX2_clear (u : US) : Sim tV mX2_clear 0 (fX2_clear u) 0 [some (.ref 8)] [] u := by
  unfold fX2_clear
  refine r_aload_n dX2_clear_0 rfl ?_
  refine r_iconst dX2_clear_1 (v := 0) rfl ?_
  refine r_put 8 1 fpX2_15 rfl rfl dX2_clear_2 (r_nx (fun u1 => ?_))
  exact r_return rfl dX2_clear_5
theorem okX2_clear (u : US) : ∀ r, fX2_clear u = some r → MetC mX2_clear 0 [.ref 8] u (tV r) :=
  met_of (by decide +kernel) (Nat.le_of_ble_eq_true rfl) rfl (sX2_clear u)
def fX0_tellMost_23 : Nat → Int32 → Int32 → Int32 → Int32 → US → Option (Int32 × US)
  | 0, _, _, _, _, _ => none
  | n + 1, v2, v3, v4, v5, u => (if (gI u 12 2) ≤ v5 then some (v3, u) else oB (fX0_leastFor v5 v2 v4 u) fun r1 u1 => oV (fX2_add ((r1 : Int32).toInt64) u1) fun u2 => (if r1 = (-1) then fX0_tellMost_23 n v2 v3 v4 (v5 + 1) u2 else fX0_tellMost_23 n (v2 &&& ((1 <<< (r1 &&& 31)) ^^^ (-1))) v3 (v4 + (-1)) (v5 + 1) u2))
set_option maxRecDepth 20000 in
theorem sX0_tellMost_23 : ∀ (n : Nat) (v2 : Int32) (v3 : Int32) (v4 : Int32) (v5 : Int32) (u : US), Sim tI mX0_tellMost 403 (fX0_tellMost_23 n v2 v3 v4 v5 u) 23 [some (.ref 12), some (.ref 8), some (.int v2), some (.int v3), some (.int v4), some (.int v5), none] [] u := by
  intro n
  induction n with
  | zero =>
    intro v2 v3 v4 v5 u
    rw [fX0_tellMost_23.eq_1]
    exact r_none
  | succ n ih =>
    intro v2 v3 v4 v5 u
    rw [fX0_tellMost_23.eq_2]
    refine r_iload dX0_tellMost_23 rfl ?_
    refine r_aload_n dX0_tellMost_25 rfl ?_
    refine r_get 12 2 flX0_18 rfl (v := .int (gI u 12 2)) rfl dX0_tellMost_26 ?_
    refine r_icmp_ge dX0_tellMost_29 (tgt := 74) rfl ?_ ?_
    · refine r_iload_n dX0_tellMost_74 rfl ?_
      exact r_ireturn rfl dX0_tellMost_75
    · refine r_aload_n dX0_tellMost_32 rfl ?_
      refine r_iload dX0_tellMost_33 rfl ?_
      refine r_iload_n dX0_tellMost_35 rfl ?_
      refine r_iload dX0_tellMost_36 rfl ?_
      refine c_VI (As := [.int v5, .int v2, .int v4]) kvX0_35 rfl (by decide) (okX0_leastFor v5 v2 v4 u) rfl (Nat.le_of_ble_eq_true rfl) rfl dX0_tellMost_38 (fun r1 u1 => ?_)
      refine r_istore dX0_tellMost_41 (Nat.le_of_ble_eq_true rfl) (ls2 := [some (.ref 12), some (.ref 8), some (.int v2), some (.int v3), some (.int v4), some (.int v5), some (.int r1)]) rfl ?_
      refine r_aload_n dX0_tellMost_43 rfl ?_
      refine r_iload dX0_tellMost_44 rfl ?_
      refine r_i2l dX0_tellMost_46 ?_
      refine c_VV (As := [.long ((r1 : Int32).toInt64)]) kvX0_39 rfl (by decide) (okX2_add ((r1 : Int32).toInt64) u1) rfl (Nat.le_of_ble_eq_true rfl) rfl dX0_tellMost_47 (fun u2 => ?_)
      refine r_iload dX0_tellMost_50 rfl ?_
      refine r_iconst dX0_tellMost_52 (v := -1) rfl ?_
      refine r_icmp_eq dX0_tellMost_53 (tgt := 68) rfl ?_ ?_
      · refine r_iinc dX0_tellMost_68 (Nat.le_of_ble_eq_true rfl) rfl (v := v5 + 1) rfl (ls2 := [some (.ref 12), some (.ref 8), some (.int v2), some (.int v3), some (.int v4), some (.int (v5 + 1)), some (.int r1)]) rfl ?_
        refine r_goto dX0_tellMost_71 (tgt := 23) rfl ?_
        refine r_mk [true, true, true, true, true, true, false] (ls2 := [some (.ref 12), some (.ref 8), some (.int v2), some (.int v3), some (.int v4), some (.int (v5 + 1)), none]) rfl ?_
        exact ih v2 v3 v4 (v5 + 1) u2
      · refine r_iload_n dX0_tellMost_56 rfl ?_
        refine r_iconst dX0_tellMost_57 (v := 1) rfl ?_
        refine r_iload dX0_tellMost_58 rfl ?_
        refine r_ishl dX0_tellMost_60 ?_
        refine r_iconst dX0_tellMost_61 (v := -1) rfl ?_
        refine r_ixor dX0_tellMost_62 ?_
        refine r_iand dX0_tellMost_63 ?_
        refine r_istore_n dX0_tellMost_64 (Nat.le_of_ble_eq_true rfl) (ls2 := [some (.ref 12), some (.ref 8), some (.int (v2 &&& ((1 <<< (r1 &&& 31)) ^^^ (-1)))), some (.int v3), some (.int v4), some (.int v5), some (.int r1)]) rfl ?_
        refine r_iinc dX0_tellMost_65 (Nat.le_of_ble_eq_true rfl) rfl (v := v4 + (-1)) rfl (ls2 := [some (.ref 12), some (.ref 8), some (.int (v2 &&& ((1 <<< (r1 &&& 31)) ^^^ (-1)))), some (.int v3), some (.int (v4 + (-1))), some (.int v5), some (.int r1)]) rfl ?_
        refine r_iinc dX0_tellMost_68 (Nat.le_of_ble_eq_true rfl) rfl (v := v5 + 1) rfl (ls2 := [some (.ref 12), some (.ref 8), some (.int (v2 &&& ((1 <<< (r1 &&& 31)) ^^^ (-1)))), some (.int v3), some (.int (v4 + (-1))), some (.int (v5 + 1)), some (.int r1)]) rfl ?_
        refine r_goto dX0_tellMost_71 (tgt := 23) rfl ?_
        refine r_mk [true, true, true, true, true, true, false] (ls2 := [some (.ref 12), some (.ref 8), some (.int (v2 &&& ((1 <<< (r1 &&& 31)) ^^^ (-1)))), some (.int v3), some (.int (v4 + (-1))), some (.int (v5 + 1)), none]) rfl ?_
        exact ih (v2 &&& ((1 <<< (r1 &&& 31)) ^^^ (-1))) v3 (v4 + (-1)) (v5 + 1) u2
def fX0_tellMost (u : US) : Option (Int32 × US) :=
  oB (fX11_allOf 8 u) fun r1 u1 => oB (fX0_served 0 r1 u1) fun r2 u2 => oV (fX2_clear u2) fun u3 => fX0_tellMost_23 FU r1 r2 r2 0 u3
set_option maxRecDepth 20000 in
theorem sX0_tellMost (u : US) : Sim tI mX0_tellMost 403 (fX0_tellMost u) 0 [some (.ref 12), some (.ref 8), none, none, none, none, none] [] u := by
  unfold fX0_tellMost
  refine r_bipush dX0_tellMost_0 (v := 8) rfl ?_
  refine c_NI (As := [.int 8]) knX0_22 (by decide) (okX11_allOf 8 u) rfl (Nat.le_of_ble_eq_true rfl) rfl dX0_tellMost_2 (fun r1 u1 => ?_)
  refine r_istore_n dX0_tellMost_5 (Nat.le_of_ble_eq_true rfl) (ls2 := [some (.ref 12), some (.ref 8), some (.int r1), none, none, none, none]) rfl ?_
  refine r_aload_n dX0_tellMost_6 rfl ?_
  refine r_iconst dX0_tellMost_7 (v := 0) rfl ?_
  refine r_iload_n dX0_tellMost_8 rfl ?_
  refine c_VI (As := [.int 0, .int r1]) kvX0_26 rfl (by decide) (okX0_served 0 r1 u1) rfl (Nat.le_of_ble_eq_true rfl) rfl dX0_tellMost_9 (fun r2 u2 => ?_)
  refine r_istore_n dX0_tellMost_12 (Nat.le_of_ble_eq_true rfl) (ls2 := [some (.ref 12), some (.ref 8), some (.int r1), some (.int r2), none, none, none]) rfl ?_
  refine r_iload_n dX0_tellMost_13 rfl ?_
  refine r_istore dX0_tellMost_14 (Nat.le_of_ble_eq_true rfl) (ls2 := [some (.ref 12), some (.ref 8), some (.int r1), some (.int r2), some (.int r2), none, none]) rfl ?_
  refine r_aload_n dX0_tellMost_16 rfl ?_
  refine c_VV (As := []) kvX0_30 rfl (by decide) (okX2_clear u2) rfl (Nat.le_of_ble_eq_true rfl) rfl dX0_tellMost_17 (fun u3 => ?_)
  refine r_iconst dX0_tellMost_20 (v := 0) rfl ?_
  refine r_istore dX0_tellMost_21 (Nat.le_of_ble_eq_true rfl) (ls2 := [some (.ref 12), some (.ref 8), some (.int r1), some (.int r2), some (.int r2), some (.int 0), none]) rfl ?_
  exact sX0_tellMost_23 FU r1 r2 r2 0 u3
theorem okX0_tellMost (u : US) : ∀ r, fX0_tellMost u = some r → MetC mX0_tellMost 403 [.ref 12, .ref 8] u (tI r) :=
  met_of (by decide +kernel) (Nat.le_of_ble_eq_true rfl) rfl (sX0_tellMost u)
def fX10_add (v1 : Int32) (v2 : Int32) (v3 : Int32) (u : US) : Option (Int32 × US) :=
  (if (gI u 11 3) < 12 then gd (inb (gI u 11 3) 12) (nx (sA u 36 (gI u 11 3) v1) fun u1 => gd (inb (gI u1 11 3) 12) (nx (sA u1 37 (gI u1 11 3) v2) fun u2 => gd (inb (gI u2 11 3) 12) (nx (sA u2 38 (gI u2 11 3) (vp_nar .boolean v3)) fun u3 => nx (sI u3 11 3 ((gI u3 11 3) + 1)) fun u4 => some (gI u4 11 3, u4)))) else some ((-1), u))
set_option maxRecDepth 20000 in
theorem sX10_add (v1 : Int32) (v2 : Int32) (v3 : Int32) (u : US) : Sim tI mX10_add 0 (fX10_add v1 v2 v3 u) 0 [some (.ref 11), some (.int v1), some (.int v2), some (.int v3)] [] u := by
  unfold fX10_add
  refine r_aload_n dX10_add_0 rfl ?_
  refine r_get 11 3 flX10_28 rfl (v := .int (gI u 11 3)) rfl dX10_add_1 ?_
  refine r_bipush dX10_add_4 (v := 12) rfl ?_
  refine r_icmp_lt dX10_add_6 (tgt := 11) rfl ?_ ?_
  · refine r_aload_n dX10_add_11 rfl ?_
    refine r_get 11 0 flX10_9 rfl (v := .ref 36) rfl dX10_add_12 ?_
    refine r_aload_n dX10_add_15 rfl ?_
    refine r_get 11 3 flX10_28 rfl (v := .int (gI u 11 3)) rfl dX10_add_16 ?_
    refine r_iload_n dX10_add_19 rfl ?_
    refine r_iast 36 rfl dX10_add_20 (r_nx (fun u1 => ?_))
    refine r_aload_n dX10_add_21 rfl ?_
    refine r_get 11 1 flX10_15 rfl (v := .ref 37) rfl dX10_add_22 ?_
    refine r_aload_n dX10_add_25 rfl ?_
    refine r_get 11 3 flX10_28 rfl (v := .int (gI u1 11 3)) rfl dX10_add_26 ?_
    refine r_iload_n dX10_add_29 rfl ?_
    refine r_iast 37 rfl dX10_add_30 (r_nx (fun u2 => ?_))
    refine r_aload_n dX10_add_31 rfl ?_
    refine r_get 11 2 flX10_18 rfl (v := .ref 38) rfl dX10_add_32 ?_
    refine r_aload_n dX10_add_35 rfl ?_
    refine r_get 11 3 flX10_28 rfl (v := .int (gI u2 11 3)) rfl dX10_add_36 ?_
    refine r_iload_n dX10_add_39 rfl ?_
    refine r_zast 38 rfl dX10_add_40 (r_nx (fun u3 => ?_))
    refine r_aload_n dX10_add_41 rfl ?_
    refine r_dup dX10_add_42 rfl ?_
    refine r_get 11 3 flX10_28 rfl (v := .int (gI u3 11 3)) rfl dX10_add_43 ?_
    refine r_iconst dX10_add_46 (v := 1) rfl ?_
    refine r_iadd dX10_add_47 ?_
    refine r_put 11 3 fpX10_28 rfl rfl dX10_add_48 (r_nx (fun u4 => ?_))
    refine r_aload_n dX10_add_51 rfl ?_
    refine r_get 11 3 flX10_28 rfl (v := .int (gI u4 11 3)) rfl dX10_add_52 ?_
    exact r_ireturn rfl dX10_add_55
  · refine r_iconst dX10_add_9 (v := -1) rfl ?_
    exact r_ireturn rfl dX10_add_10
theorem okX10_add (v1 : Int32) (v2 : Int32) (v3 : Int32) (u : US) : ∀ r, fX10_add v1 v2 v3 u = some r → MetC mX10_add 0 [.ref 11, .int v1, .int v2, .int v3] u (tI r) :=
  met_of (by decide +kernel) (Nat.le_of_ble_eq_true rfl) rfl (sX10_add v1 v2 v3 u)
def fX11_bears (v0 : Int32) (v1 : Int32) (v2 : Int32) (v3 : Int32) (u : US) : Option (Int32 × US) :=
  (if ((ush v1 v2) &&& 1) = 0 then (if v0 < v3 then some (0, u) else some (1, u)) else some (0, u))
set_option maxRecDepth 20000 in
theorem sX11_bears (v0 : Int32) (v1 : Int32) (v2 : Int32) (v3 : Int32) (u : US) : Sim tI mX11_bears 0 (fX11_bears v0 v1 v2 v3 u) 0 [some (.int v0), some (.int v1), some (.int v2), some (.int v3)] [] u := by
  unfold fX11_bears
  refine r_iload_n dX11_bears_0 rfl ?_
  refine r_iload_n dX11_bears_1 rfl ?_
  refine r_iushr dX11_bears_2 ?_
  refine r_iconst dX11_bears_3 (v := 1) rfl ?_
  refine r_iand dX11_bears_4 ?_
  refine r_if_ne dX11_bears_5 (tgt := 17) rfl ?_ ?_
  · refine r_iconst dX11_bears_17 (v := 0) rfl ?_
    exact r_zreturn0 rfl dX11_bears_18
  · refine r_iload_n dX11_bears_8 rfl ?_
    refine r_iload_n dX11_bears_9 rfl ?_
    refine r_icmp_gt dX11_bears_10 (tgt := 17) rfl ?_ ?_
    · refine r_iconst dX11_bears_17 (v := 0) rfl ?_
      exact r_zreturn0 rfl dX11_bears_18
    · refine r_iconst dX11_bears_13 (v := 1) rfl ?_
      refine r_goto dX11_bears_14 (tgt := 18) rfl ?_
      exact r_zreturn1 rfl dX11_bears_18
theorem okX11_bears (v0 : Int32) (v1 : Int32) (v2 : Int32) (v3 : Int32) (u : US) : ∀ r, fX11_bears v0 v1 v2 v3 u = some r → MetC mX11_bears 0 [.int v0, .int v1, .int v2, .int v3] u (tI r) :=
  met_of (by decide +kernel) (Nat.le_of_ble_eq_true rfl) rfl (sX11_bears v0 v1 v2 v3 u)
def fX10_allows_2 (v1 : Int32) (v2 : Int32) : Nat → Int32 → US → Option (Int32 × US)
  | 0, _, _ => none
  | n + 1, v3, u => (if (gI u 11 3) ≤ v3 then some (1, u) else gd (inb v3 12) (gd (inb v3 12) (oB (fX11_bears v1 v2 (gA u 36 v3) (gA u 37 v3) u) fun r1 u1 => gd (inb v3 12) ((if r1 = (gA u1 38 v3) then fX10_allows_2 v1 v2 n (v3 + 1) u1 else some (0, u1))))))
set_option maxRecDepth 20000 in
theorem sX10_allows_2 (v1 : Int32) (v2 : Int32) : ∀ (n : Nat) (v3 : Int32) (u : US), Sim tI mX10_allows 1 (fX10_allows_2 v1 v2 n v3 u) 2 [some (.ref 11), some (.int v1), some (.int v2), some (.int v3)] [] u := by
  intro n
  induction n with
  | zero =>
    intro v3 u
    rw [fX10_allows_2.eq_1]
    exact r_none
  | succ n ih =>
    intro v3 u
    rw [fX10_allows_2.eq_2]
    refine r_iload_n dX10_allows_2 rfl ?_
    refine r_aload_n dX10_allows_3 rfl ?_
    refine r_get 11 3 flX10_28 rfl (v := .int (gI u 11 3)) rfl dX10_allows_4 ?_
    refine r_icmp_ge dX10_allows_7 (tgt := 44) rfl ?_ ?_
    · refine r_iconst dX10_allows_44 (v := 1) rfl ?_
      exact r_zreturn1 rfl dX10_allows_45
    · refine r_iload_n dX10_allows_10 rfl ?_
      refine r_iload_n dX10_allows_11 rfl ?_
      refine r_aload_n dX10_allows_12 rfl ?_
      refine r_get 11 0 flX10_9 rfl (v := .ref 36) rfl dX10_allows_13 ?_
      refine r_iload_n dX10_allows_16 rfl ?_
      refine r_iald 36 rfl dX10_allows_17 ?_
      refine r_aload_n dX10_allows_18 rfl ?_
      refine r_get 11 1 flX10_15 rfl (v := .ref 37) rfl dX10_allows_19 ?_
      refine r_iload_n dX10_allows_22 rfl ?_
      refine r_iald 37 rfl dX10_allows_23 ?_
      refine c_NI (As := [.int v1, .int v2, .int (gA u 36 v3), .int (gA u 37 v3)]) knX10_32 (by decide) (okX11_bears v1 v2 (gA u 36 v3) (gA u 37 v3) u) rfl (Nat.le_of_ble_eq_true rfl) rfl dX10_allows_24 (fun r1 u1 => ?_)
      refine r_aload_n dX10_allows_27 rfl ?_
      refine r_get 11 2 flX10_18 rfl (v := .ref 38) rfl dX10_allows_28 ?_
      refine r_iload_n dX10_allows_31 rfl ?_
      refine r_zald 38 rfl dX10_allows_32 ?_
      refine r_icmp_eq dX10_allows_33 (tgt := 38) rfl ?_ ?_
      · refine r_iinc dX10_allows_38 (Nat.le_of_ble_eq_true rfl) rfl (v := v3 + 1) rfl (ls2 := [some (.ref 11), some (.int v1), some (.int v2), some (.int (v3 + 1))]) rfl ?_
        refine r_goto dX10_allows_41 (tgt := 2) rfl ?_
        exact ih (v3 + 1) u1
      · refine r_iconst dX10_allows_36 (v := 0) rfl ?_
        exact r_zreturn0 rfl dX10_allows_37
def fX10_allows (v1 : Int32) (v2 : Int32) (u : US) : Option (Int32 × US) :=
  fX10_allows_2 v1 v2 FU 0 u
set_option maxRecDepth 20000 in
theorem sX10_allows (v1 : Int32) (v2 : Int32) (u : US) : Sim tI mX10_allows 1 (fX10_allows v1 v2 u) 0 [some (.ref 11), some (.int v1), some (.int v2), none] [] u := by
  unfold fX10_allows
  refine r_iconst dX10_allows_0 (v := 0) rfl ?_
  refine r_istore_n dX10_allows_1 (Nat.le_of_ble_eq_true rfl) (ls2 := [some (.ref 11), some (.int v1), some (.int v2), some (.int 0)]) rfl ?_
  exact sX10_allows_2 v1 v2 FU 0 u
theorem okX10_allows (v1 : Int32) (v2 : Int32) (u : US) : ∀ r, fX10_allows v1 v2 u = some r → MetC mX10_allows 1 [.ref 11, .int v1, .int v2] u (tI r) :=
  met_of (by decide +kernel) (Nat.le_of_ble_eq_true rfl) rfl (sX10_allows v1 v2 u)
def fX10_clear (u : US) : Option (Int32 × US) :=
  nx (sI u 11 3 0) fun u1 => some (gI u 11 3, u1)
set_option maxRecDepth 20000 in
theorem sX10_clear (u : US) : Sim tI mX10_clear 0 (fX10_clear u) 0 [some (.ref 11), none] [] u := by
  unfold fX10_clear
  refine r_aload_n dX10_clear_0 rfl ?_
  refine r_get 11 3 flX10_28 rfl (v := .int (gI u 11 3)) rfl dX10_clear_1 ?_
  refine r_istore_n dX10_clear_4 (Nat.le_of_ble_eq_true rfl) (ls2 := [some (.ref 11), some (.int (gI u 11 3))]) rfl ?_
  refine r_aload_n dX10_clear_5 rfl ?_
  refine r_iconst dX10_clear_6 (v := 0) rfl ?_
  refine r_put 11 3 fpX10_28 rfl rfl dX10_clear_7 (r_nx (fun u1 => ?_))
  refine r_iload_n dX10_clear_10 rfl ?_
  exact r_ireturn rfl dX10_clear_11
theorem okX10_clear (u : US) : ∀ r, fX10_clear u = some r → MetC mX10_clear 0 [.ref 11] u (tI r) :=
  met_of (by decide +kernel) (Nat.le_of_ble_eq_true rfl) rfl (sX10_clear u)
def fX10_fittingIfSeen_9 (v1 : Int32) (v2 : Int32) : Nat → Int32 → Int32 → US → Option (Int32 × US)
  | 0, _, _, _ => none
  | n + 1, v3, v4, u => (if (10 : Int32) ≤ v4 then some (v3, u) else oB (fX11_has (gI u 11 4) v1 u) fun r1 u1 => (if r1 = 0 then gd (inb v4 10) (oB (fX11_has (gA u1 39 v4) v1 u1) fun r2 u2 => (if r2 = 0 then gd (inb v4 10) (if (2 : Int32) = 0 then none else fX10_fittingIfSeen_9 v1 v2 n (v3 + ((gA u2 40 v4) / 2)) (v4 + 1) u2) else fX10_fittingIfSeen_9 v1 v2 n v3 (v4 + 1) u2)) else gd (inb v4 10) (fX10_fittingIfSeen_9 v1 v2 n (v3 + (gA u1 40 v4)) (v4 + 1) u1)))
set_option maxRecDepth 20000 in
theorem sX10_fittingIfSeen_9 (v1 : Int32) (v2 : Int32) : ∀ (n : Nat) (v3 : Int32) (v4 : Int32) (u : US), Sim tI mX10_fittingIfSeen 5 (fX10_fittingIfSeen_9 v1 v2 n v3 v4 u) 9 [some (.ref 11), some (.int v1), some (.int v2), some (.int v3), some (.int v4)] [] u := by
  intro n
  induction n with
  | zero =>
    intro v3 v4 u
    rw [fX10_fittingIfSeen_9.eq_1]
    exact r_none
  | succ n ih =>
    intro v3 v4 u
    rw [fX10_fittingIfSeen_9.eq_2]
    refine r_iload dX10_fittingIfSeen_9 rfl ?_
    refine r_bipush dX10_fittingIfSeen_11 (v := 10) rfl ?_
    refine r_icmp_ge dX10_fittingIfSeen_13 (tgt := 72) rfl ?_ ?_
    · refine r_iload_n dX10_fittingIfSeen_72 rfl ?_
      exact r_ireturn rfl dX10_fittingIfSeen_73
    · refine r_aload_n dX10_fittingIfSeen_16 rfl ?_
      refine r_get 11 4 flX10_40 rfl (v := .int (gI u 11 4)) rfl dX10_fittingIfSeen_17 ?_
      refine r_iload_n dX10_fittingIfSeen_20 rfl ?_
      refine c_NI (As := [.int (gI u 11 4), .int v1]) knX10_59 (by decide) (okX11_has (gI u 11 4) v1 u) rfl (Nat.le_of_ble_eq_true rfl) rfl dX10_fittingIfSeen_21 (fun r1 u1 => ?_)
      refine r_if_eq dX10_fittingIfSeen_24 (tgt := 40) rfl ?_ ?_
      · refine r_aload_n dX10_fittingIfSeen_40 rfl ?_
        refine r_get 11 5 flX10_22 rfl (v := .ref 39) rfl dX10_fittingIfSeen_41 ?_
        refine r_iload dX10_fittingIfSeen_44 rfl ?_
        refine r_iald 39 rfl dX10_fittingIfSeen_46 ?_
        refine r_iload_n dX10_fittingIfSeen_47 rfl ?_
        refine c_NI (As := [.int (gA u1 39 v4), .int v1]) knX10_59 (by decide) (okX11_has (gA u1 39 v4) v1 u1) rfl (Nat.le_of_ble_eq_true rfl) rfl dX10_fittingIfSeen_48 (fun r2 u2 => ?_)
        refine r_if_ne dX10_fittingIfSeen_51 (tgt := 66) rfl ?_ ?_
        · refine r_iinc dX10_fittingIfSeen_66 (Nat.le_of_ble_eq_true rfl) rfl (v := v4 + 1) rfl (ls2 := [some (.ref 11), some (.int v1), some (.int v2), some (.int v3), some (.int (v4 + 1))]) rfl ?_
          refine r_goto dX10_fittingIfSeen_69 (tgt := 9) rfl ?_
          exact ih v3 (v4 + 1) u2
        · refine r_iload_n dX10_fittingIfSeen_54 rfl ?_
          refine r_aload_n dX10_fittingIfSeen_55 rfl ?_
          refine r_get 11 6 flX10_25 rfl (v := .ref 40) rfl dX10_fittingIfSeen_56 ?_
          refine r_iload dX10_fittingIfSeen_59 rfl ?_
          refine r_iald 40 rfl dX10_fittingIfSeen_61 ?_
          refine r_iconst dX10_fittingIfSeen_62 (v := 2) rfl ?_
          refine r_idiv dX10_fittingIfSeen_63 ?_
          refine r_iadd dX10_fittingIfSeen_64 ?_
          refine r_istore_n dX10_fittingIfSeen_65 (Nat.le_of_ble_eq_true rfl) (ls2 := [some (.ref 11), some (.int v1), some (.int v2), some (.int (v3 + ((gA u2 40 v4) / 2))), some (.int v4)]) rfl ?_
          refine r_iinc dX10_fittingIfSeen_66 (Nat.le_of_ble_eq_true rfl) rfl (v := v4 + 1) rfl (ls2 := [some (.ref 11), some (.int v1), some (.int v2), some (.int (v3 + ((gA u2 40 v4) / 2))), some (.int (v4 + 1))]) rfl ?_
          refine r_goto dX10_fittingIfSeen_69 (tgt := 9) rfl ?_
          exact ih (v3 + ((gA u2 40 v4) / 2)) (v4 + 1) u2
      · refine r_iload_n dX10_fittingIfSeen_27 rfl ?_
        refine r_aload_n dX10_fittingIfSeen_28 rfl ?_
        refine r_get 11 6 flX10_25 rfl (v := .ref 40) rfl dX10_fittingIfSeen_29 ?_
        refine r_iload dX10_fittingIfSeen_32 rfl ?_
        refine r_iald 40 rfl dX10_fittingIfSeen_34 ?_
        refine r_iadd dX10_fittingIfSeen_35 ?_
        refine r_istore_n dX10_fittingIfSeen_36 (Nat.le_of_ble_eq_true rfl) (ls2 := [some (.ref 11), some (.int v1), some (.int v2), some (.int (v3 + (gA u1 40 v4))), some (.int v4)]) rfl ?_
        refine r_goto dX10_fittingIfSeen_37 (tgt := 66) rfl ?_
        refine r_iinc dX10_fittingIfSeen_66 (Nat.le_of_ble_eq_true rfl) rfl (v := v4 + 1) rfl (ls2 := [some (.ref 11), some (.int v1), some (.int v2), some (.int (v3 + (gA u1 40 v4))), some (.int (v4 + 1))]) rfl ?_
        refine r_goto dX10_fittingIfSeen_69 (tgt := 9) rfl ?_
        exact ih (v3 + (gA u1 40 v4)) (v4 + 1) u1
def fX10_fittingIfSeen (v1 : Int32) (v2 : Int32) (u : US) : Option (Int32 × US) :=
  fX10_fittingIfSeen_9 v1 v2 FU 0 (if (0 : Int32) < v2 then v2 else 0) u
set_option maxRecDepth 20000 in
theorem sX10_fittingIfSeen (v1 : Int32) (v2 : Int32) (u : US) : Sim tI mX10_fittingIfSeen 5 (fX10_fittingIfSeen v1 v2 u) 0 [some (.ref 11), some (.int v1), some (.int v2), none, none] [] u := by
  unfold fX10_fittingIfSeen
  refine r_iconst dX10_fittingIfSeen_0 (v := 0) rfl ?_
  refine r_istore_n dX10_fittingIfSeen_1 (Nat.le_of_ble_eq_true rfl) (ls2 := [some (.ref 11), some (.int v1), some (.int v2), some (.int 0), none]) rfl ?_
  refine r_iconst dX10_fittingIfSeen_2 (v := 0) rfl ?_
  refine r_iload_n dX10_fittingIfSeen_3 rfl ?_
  refine r_max kmX10_53 ktMath_max knMath kcMath_max (by decide) (Nat.le_of_ble_eq_true rfl) dX10_fittingIfSeen_4 ?_
  refine r_istore dX10_fittingIfSeen_7 (Nat.le_of_ble_eq_true rfl) (ls2 := [some (.ref 11), some (.int v1), some (.int v2), some (.int 0), some (.int (if (0 : Int32) < v2 then v2 else 0))]) rfl ?_
  exact sX10_fittingIfSeen_9 v1 v2 FU 0 (if (0 : Int32) < v2 then v2 else 0) u
theorem okX10_fittingIfSeen (v1 : Int32) (v2 : Int32) (u : US) : ∀ r, fX10_fittingIfSeen v1 v2 u = some r → MetC mX10_fittingIfSeen 5 [.ref 11, .int v1, .int v2] u (tI r) :=
  met_of (by decide +kernel) (Nat.le_of_ble_eq_true rfl) rfl (sX10_fittingIfSeen v1 v2 u)
def fX10_force_14 (v1 : Int32) : Nat → Int32 → US → Option (US)
  | 0, _, _ => none
  | n + 1, v2, u => (if (gI u 11 3) ≤ v2 then some u else gd (inb v2 12) ((if (gA u 38 v2) = 0 then gd (inb v2 12) ((if v1 < (gA u 37 v2) then fX10_force_14 v1 n (v2 + 1) u else gd (inb v1 10) (gd (inb v2 12) (gd (inb v1 10) (nx (sA u 39 v1 ((gA u 39 v1) ||| (1 <<< ((gA u 36 v2) &&& 31)))) fun u1 => fX10_force_14 v1 n (v2 + 1) u1))))) else gd (inb v2 12) (nx (sI u 11 4 ((gI u 11 4) ||| (1 <<< ((gA u 36 v2) &&& 31)))) fun u2 => fX10_force_14 v1 n (v2 + 1) u2))))
set_option maxRecDepth 20000 in
theorem sX10_force_14 (v1 : Int32) : ∀ (n : Nat) (v2 : Int32) (u : US), Sim tV mX10_force 0 (fX10_force_14 v1 n v2 u) 14 [some (.ref 11), some (.int v1), some (.int v2)] [] u := by
  intro n
  induction n with
  | zero =>
    intro v2 u
    rw [fX10_force_14.eq_1]
    exact r_none
  | succ n ih =>
    intro v2 u
    rw [fX10_force_14.eq_2]
    refine r_iload_n dX10_force_14 rfl ?_
    refine r_aload_n dX10_force_15 rfl ?_
    refine r_get 11 3 flX10_28 rfl (v := .int (gI u 11 3)) rfl dX10_force_16 ?_
    refine r_icmp_ge dX10_force_19 (tgt := 84) rfl ?_ ?_
    · exact r_return rfl dX10_force_84
    · refine r_aload_n dX10_force_22 rfl ?_
      refine r_get 11 2 flX10_18 rfl (v := .ref 38) rfl dX10_force_23 ?_
      refine r_iload_n dX10_force_26 rfl ?_
      refine r_zald 38 rfl dX10_force_27 ?_
      refine r_if_eq dX10_force_28 (tgt := 51) rfl ?_ ?_
      · refine r_aload_n dX10_force_51 rfl ?_
        refine r_get 11 1 flX10_15 rfl (v := .ref 37) rfl dX10_force_52 ?_
        refine r_iload_n dX10_force_55 rfl ?_
        refine r_iald 37 rfl dX10_force_56 ?_
        refine r_iload_n dX10_force_57 rfl ?_
        refine r_icmp_gt dX10_force_58 (tgt := 78) rfl ?_ ?_
        · refine r_iinc dX10_force_78 (Nat.le_of_ble_eq_true rfl) rfl (v := v2 + 1) rfl (ls2 := [some (.ref 11), some (.int v1), some (.int (v2 + 1))]) rfl ?_
          refine r_goto dX10_force_81 (tgt := 14) rfl ?_
          exact ih (v2 + 1) u
        · refine r_aload_n dX10_force_61 rfl ?_
          refine r_get 11 5 flX10_22 rfl (v := .ref 39) rfl dX10_force_62 ?_
          refine r_iload_n dX10_force_65 rfl ?_
          refine r_dup2 dX10_force_66 rfl rfl ?_
          refine r_iald 39 rfl dX10_force_67 ?_
          refine r_iconst dX10_force_68 (v := 1) rfl ?_
          refine r_aload_n dX10_force_69 rfl ?_
          refine r_get 11 0 flX10_9 rfl (v := .ref 36) rfl dX10_force_70 ?_
          refine r_iload_n dX10_force_73 rfl ?_
          refine r_iald 36 rfl dX10_force_74 ?_
          refine r_ishl dX10_force_75 ?_
          refine r_ior dX10_force_76 ?_
          refine r_iast 39 rfl dX10_force_77 (r_nx (fun u1 => ?_))
          refine r_iinc dX10_force_78 (Nat.le_of_ble_eq_true rfl) rfl (v := v2 + 1) rfl (ls2 := [some (.ref 11), some (.int v1), some (.int (v2 + 1))]) rfl ?_
          refine r_goto dX10_force_81 (tgt := 14) rfl ?_
          exact ih (v2 + 1) u1
      · refine r_aload_n dX10_force_31 rfl ?_
        refine r_dup dX10_force_32 rfl ?_
        refine r_get 11 4 flX10_40 rfl (v := .int (gI u 11 4)) rfl dX10_force_33 ?_
        refine r_iconst dX10_force_36 (v := 1) rfl ?_
        refine r_aload_n dX10_force_37 rfl ?_
        refine r_get 11 0 flX10_9 rfl (v := .ref 36) rfl dX10_force_38 ?_
        refine r_iload_n dX10_force_41 rfl ?_
        refine r_iald 36 rfl dX10_force_42 ?_
        refine r_ishl dX10_force_43 ?_
        refine r_ior dX10_force_44 ?_
        refine r_put 11 4 fpX10_40 rfl rfl dX10_force_45 (r_nx (fun u2 => ?_))
        refine r_goto dX10_force_48 (tgt := 78) rfl ?_
        refine r_iinc dX10_force_78 (Nat.le_of_ble_eq_true rfl) rfl (v := v2 + 1) rfl (ls2 := [some (.ref 11), some (.int v1), some (.int (v2 + 1))]) rfl ?_
        refine r_goto dX10_force_81 (tgt := 14) rfl ?_
        exact ih (v2 + 1) u2
def fX10_force (v1 : Int32) (u : US) : Option (US) :=
  nx (sI u 11 4 0) fun u1 => gd (inb v1 10) (nx (sA u1 39 v1 0) fun u2 => fX10_force_14 v1 FU 0 u2)
set_option maxRecDepth 20000 in
theorem sX10_force (v1 : Int32) (u : US) : Sim tV mX10_force 0 (fX10_force v1 u) 0 [some (.ref 11), some (.int v1), none] [] u := by
  unfold fX10_force
  refine r_aload_n dX10_force_0 rfl ?_
  refine r_iconst dX10_force_1 (v := 0) rfl ?_
  refine r_put 11 4 fpX10_40 rfl rfl dX10_force_2 (r_nx (fun u1 => ?_))
  refine r_aload_n dX10_force_5 rfl ?_
  refine r_get 11 5 flX10_22 rfl (v := .ref 39) rfl dX10_force_6 ?_
  refine r_iload_n dX10_force_9 rfl ?_
  refine r_iconst dX10_force_10 (v := 0) rfl ?_
  refine r_iast 39 rfl dX10_force_11 (r_nx (fun u2 => ?_))
  refine r_iconst dX10_force_12 (v := 0) rfl ?_
  refine r_istore_n dX10_force_13 (Nat.le_of_ble_eq_true rfl) (ls2 := [some (.ref 11), some (.int v1), some (.int 0)]) rfl ?_
  exact sX10_force_14 v1 FU 0 u2
theorem okX10_force (v1 : Int32) (u : US) : ∀ r, fX10_force v1 u = some r → MetC mX10_force 0 [.ref 11, .int v1] u (tV r) :=
  met_of (by decide +kernel) (Nat.le_of_ble_eq_true rfl) rfl (sX10_force v1 u)
def fX10_hiddenAt (v1 : Int32) (u : US) : Option (Int32 × US) :=
  (if v1 < 0 then some (0, u) else (if (10 : Int32) ≤ v1 then some (0, u) else gd (inb v1 10) (some (gA u 39 v1, u))))
set_option maxRecDepth 20000 in
theorem sX10_hiddenAt (v1 : Int32) (u : US) : Sim tI mX10_hiddenAt 0 (fX10_hiddenAt v1 u) 0 [some (.ref 11), some (.int v1)] [] u := by
  unfold fX10_hiddenAt
  refine r_iload_n dX10_hiddenAt_0 rfl ?_
  refine r_if_lt dX10_hiddenAt_1 (tgt := 19) rfl ?_ ?_
  · refine r_iconst dX10_hiddenAt_19 (v := 0) rfl ?_
    exact r_ireturn rfl dX10_hiddenAt_20
  · refine r_iload_n dX10_hiddenAt_4 rfl ?_
    refine r_bipush dX10_hiddenAt_5 (v := 10) rfl ?_
    refine r_icmp_ge dX10_hiddenAt_7 (tgt := 19) rfl ?_ ?_
    · refine r_iconst dX10_hiddenAt_19 (v := 0) rfl ?_
      exact r_ireturn rfl dX10_hiddenAt_20
    · refine r_aload_n dX10_hiddenAt_10 rfl ?_
      refine r_get 11 5 flX10_22 rfl (v := .ref 39) rfl dX10_hiddenAt_11 ?_
      refine r_iload_n dX10_hiddenAt_14 rfl ?_
      refine r_iald 39 rfl dX10_hiddenAt_15 ?_
      refine r_goto dX10_hiddenAt_16 (tgt := 20) rfl ?_
      exact r_ireturn rfl dX10_hiddenAt_20
theorem okX10_hiddenAt (v1 : Int32) (u : US) : ∀ r, fX10_hiddenAt v1 u = some r → MetC mX10_hiddenAt 0 [.ref 11, .int v1] u (tI r) :=
  met_of (by decide +kernel) (Nat.le_of_ble_eq_true rfl) rfl (sX10_hiddenAt v1 u)
def fX10_mildestLimit_7 : Nat → Int32 → Int32 → Int32 → US → Option (Int32 × US)
  | 0, _, _, _, _ => none
  | n + 1, v1, v2, v3, u => (if (10 : Int32) ≤ v3 then some (v1, u) else gd (inb v3 10) (oB (fJ6_bitCount_0f7a4 (gA u 39 v3) u) fun r1 u1 => gd (inb v3 10) ((if (gA u1 40 v3) ≤ 0 then fX10_mildestLimit_7 n v1 v2 (v3 + 1) u1 else (if v2 < r1 then fX10_mildestLimit_7 n v1 v2 (v3 + 1) u1 else fX10_mildestLimit_7 n v3 r1 (v3 + 1) u1)))))
set_option maxRecDepth 20000 in
theorem sX10_mildestLimit_7 : ∀ (n : Nat) (v1 : Int32) (v2 : Int32) (v3 : Int32) (u : US), Sim tI mX10_mildestLimit 1 (fX10_mildestLimit_7 n v1 v2 v3 u) 7 [some (.ref 11), some (.int v1), some (.int v2), some (.int v3), none] [] u := by
  intro n
  induction n with
  | zero =>
    intro v1 v2 v3 u
    rw [fX10_mildestLimit_7.eq_1]
    exact r_none
  | succ n ih =>
    intro v1 v2 v3 u
    rw [fX10_mildestLimit_7.eq_2]
    refine r_iload_n dX10_mildestLimit_7 rfl ?_
    refine r_bipush dX10_mildestLimit_8 (v := 10) rfl ?_
    refine r_icmp_ge dX10_mildestLimit_10 (tgt := 50) rfl ?_ ?_
    · refine r_iload_n dX10_mildestLimit_50 rfl ?_
      exact r_ireturn rfl dX10_mildestLimit_51
    · refine r_aload_n dX10_mildestLimit_13 rfl ?_
      refine r_get 11 5 flX10_22 rfl (v := .ref 39) rfl dX10_mildestLimit_14 ?_
      refine r_iload_n dX10_mildestLimit_17 rfl ?_
      refine r_iald 39 rfl dX10_mildestLimit_18 ?_
      refine c_SI (As := [.int (gA u 39 v3)]) ksX10_47 (by decide) (okJ6_bitCount_0f7a4 (gA u 39 v3) u) rfl (Nat.le_of_ble_eq_true rfl) rfl dX10_mildestLimit_19 (fun r1 u1 => ?_)
      refine r_istore dX10_mildestLimit_22 (Nat.le_of_ble_eq_true rfl) (ls2 := [some (.ref 11), some (.int v1), some (.int v2), some (.int v3), some (.int r1)]) rfl ?_
      refine r_aload_n dX10_mildestLimit_24 rfl ?_
      refine r_get 11 6 flX10_25 rfl (v := .ref 40) rfl dX10_mildestLimit_25 ?_
      refine r_iload_n dX10_mildestLimit_28 rfl ?_
      refine r_iald 40 rfl dX10_mildestLimit_29 ?_
      refine r_if_le dX10_mildestLimit_30 (tgt := 44) rfl ?_ ?_
      · refine r_iinc dX10_mildestLimit_44 (Nat.le_of_ble_eq_true rfl) rfl (v := v3 + 1) rfl (ls2 := [some (.ref 11), some (.int v1), some (.int v2), some (.int (v3 + 1)), some (.int r1)]) rfl ?_
        refine r_goto dX10_mildestLimit_47 (tgt := 7) rfl ?_
        refine r_mk [true, true, true, true, false] (ls2 := [some (.ref 11), some (.int v1), some (.int v2), some (.int (v3 + 1)), none]) rfl ?_
        exact ih v1 v2 (v3 + 1) u1
      · refine r_iload dX10_mildestLimit_33 rfl ?_
        refine r_iload_n dX10_mildestLimit_35 rfl ?_
        refine r_icmp_gt dX10_mildestLimit_36 (tgt := 44) rfl ?_ ?_
        · refine r_iinc dX10_mildestLimit_44 (Nat.le_of_ble_eq_true rfl) rfl (v := v3 + 1) rfl (ls2 := [some (.ref 11), some (.int v1), some (.int v2), some (.int (v3 + 1)), some (.int r1)]) rfl ?_
          refine r_goto dX10_mildestLimit_47 (tgt := 7) rfl ?_
          refine r_mk [true, true, true, true, false] (ls2 := [some (.ref 11), some (.int v1), some (.int v2), some (.int (v3 + 1)), none]) rfl ?_
          exact ih v1 v2 (v3 + 1) u1
        · refine r_iload_n dX10_mildestLimit_39 rfl ?_
          refine r_istore_n dX10_mildestLimit_40 (Nat.le_of_ble_eq_true rfl) (ls2 := [some (.ref 11), some (.int v3), some (.int v2), some (.int v3), some (.int r1)]) rfl ?_
          refine r_iload dX10_mildestLimit_41 rfl ?_
          refine r_istore_n dX10_mildestLimit_43 (Nat.le_of_ble_eq_true rfl) (ls2 := [some (.ref 11), some (.int v3), some (.int r1), some (.int v3), some (.int r1)]) rfl ?_
          refine r_iinc dX10_mildestLimit_44 (Nat.le_of_ble_eq_true rfl) rfl (v := v3 + 1) rfl (ls2 := [some (.ref 11), some (.int v3), some (.int r1), some (.int (v3 + 1)), some (.int r1)]) rfl ?_
          refine r_goto dX10_mildestLimit_47 (tgt := 7) rfl ?_
          refine r_mk [true, true, true, true, false] (ls2 := [some (.ref 11), some (.int v3), some (.int r1), some (.int (v3 + 1)), none]) rfl ?_
          exact ih v3 r1 (v3 + 1) u1
def fX10_mildestLimit (u : US) : Option (Int32 × US) :=
  fX10_mildestLimit_7 FU (-1) 8 0 u
set_option maxRecDepth 20000 in
theorem sX10_mildestLimit (u : US) : Sim tI mX10_mildestLimit 1 (fX10_mildestLimit u) 0 [some (.ref 11), none, none, none, none] [] u := by
  unfold fX10_mildestLimit
  refine r_iconst dX10_mildestLimit_0 (v := -1) rfl ?_
  refine r_istore_n dX10_mildestLimit_1 (Nat.le_of_ble_eq_true rfl) (ls2 := [some (.ref 11), some (.int (-1)), none, none, none]) rfl ?_
  refine r_bipush dX10_mildestLimit_2 (v := 8) rfl ?_
  refine r_istore_n dX10_mildestLimit_4 (Nat.le_of_ble_eq_true rfl) (ls2 := [some (.ref 11), some (.int (-1)), some (.int 8), none, none]) rfl ?_
  refine r_iconst dX10_mildestLimit_5 (v := 0) rfl ?_
  refine r_istore_n dX10_mildestLimit_6 (Nat.le_of_ble_eq_true rfl) (ls2 := [some (.ref 11), some (.int (-1)), some (.int 8), some (.int 0), none]) rfl ?_
  exact sX10_mildestLimit_7 FU (-1) 8 0 u
theorem okX10_mildestLimit (u : US) : ∀ r, fX10_mildestLimit u = some r → MetC mX10_mildestLimit 1 [.ref 11] u (tI r) :=
  met_of (by decide +kernel) (Nat.le_of_ble_eq_true rfl) rfl (sX10_mildestLimit u)
def fX10_weigh_63 (k4 : Int32 → Int32 → US → Option (Int32 × US)) (v1 : Int32) (v2 : Int32) (s1 : Int32) (s2 : Int32) (u : US) : Option (Int32 × US) :=
  gd (inb s1 10) (nx (sA u 40 s1 s2) fun u1 => gd (inb v2 10) (k4 (v1 + (gA u1 40 v2)) (v2 + 1) u1))
set_option maxRecDepth 20000 in
theorem sX10_weigh_63 (k4 : Int32 → Int32 → US → Option (Int32 × US)) (hk4 : ∀ (v1 : Int32) (v2 : Int32) (u : US), Sim tI mX10_weigh 2 (k4 v1 v2 u) 4 [some (.ref 11), some (.int v1), some (.int v2), none, none] [] u) (v1 : Int32) (v2 : Int32) (s1 : Int32) (s2 : Int32) (u : US) : Sim tI mX10_weigh 2 (fX10_weigh_63 k4 v1 v2 s1 s2 u) 63 [some (.ref 11), some (.int v1), some (.int v2), none, none] [.int s2, .int s1, .ref 40] u := by
  unfold fX10_weigh_63
  refine r_iast 40 rfl dX10_weigh_63 (r_nx (fun u1 => ?_))
  refine r_iload_n dX10_weigh_64 rfl ?_
  refine r_aload_n dX10_weigh_65 rfl ?_
  refine r_get 11 6 flX10_25 rfl (v := .ref 40) rfl dX10_weigh_66 ?_
  refine r_iload_n dX10_weigh_69 rfl ?_
  refine r_iald 40 rfl dX10_weigh_70 ?_
  refine r_iadd dX10_weigh_71 ?_
  refine r_istore_n dX10_weigh_72 (Nat.le_of_ble_eq_true rfl) (ls2 := [some (.ref 11), some (.int (v1 + (gA u1 40 v2))), some (.int v2), none, none]) rfl ?_
  refine r_iinc dX10_weigh_73 (Nat.le_of_ble_eq_true rfl) rfl (v := v2 + 1) rfl (ls2 := [some (.ref 11), some (.int (v1 + (gA u1 40 v2))), some (.int (v2 + 1)), none, none]) rfl ?_
  refine r_goto dX10_weigh_76 (tgt := 4) rfl ?_
  exact hk4 (v1 + (gA u1 40 v2)) (v2 + 1) u1
def fX10_weigh_4 : Nat → Int32 → Int32 → US → Option (Int32 × US)
  | 0, _, _, _ => none
  | n + 1, v1, v2, u => (if (10 : Int32) ≤ v2 then some (v1, u) else oV (fX10_force v2 u) fun u1 => gd (inb v2 10) (gd (inb v2 10) (oB (fX10_allows v2 (gA u1 39 v2) u1) fun r2 u2 => (if r2 = 0 then fX10_weigh_63 (fX10_weigh_4 n) v1 v2 v2 0 u2 else oB (fJ6_bitCount_0f7a4 ((gA u1 39 v2) ||| (gI u1 11 4)) u2) fun r3 u3 => fX10_weigh_63 (fX10_weigh_4 n) v1 v2 v2 (1 <<< ((8 - r3) &&& 31)) u3))))
set_option maxRecDepth 20000 in
theorem sX10_weigh_4 : ∀ (n : Nat) (v1 : Int32) (v2 : Int32) (u : US), Sim tI mX10_weigh 2 (fX10_weigh_4 n v1 v2 u) 4 [some (.ref 11), some (.int v1), some (.int v2), none, none] [] u := by
  intro n
  induction n with
  | zero =>
    intro v1 v2 u
    rw [fX10_weigh_4.eq_1]
    exact r_none
  | succ n ih =>
    intro v1 v2 u
    rw [fX10_weigh_4.eq_2]
    refine r_iload_n dX10_weigh_4 rfl ?_
    refine r_bipush dX10_weigh_5 (v := 10) rfl ?_
    refine r_icmp_ge dX10_weigh_7 (tgt := 79) rfl ?_ ?_
    · refine r_iload_n dX10_weigh_79 rfl ?_
      exact r_ireturn rfl dX10_weigh_80
    · refine r_aload_n dX10_weigh_10 rfl ?_
      refine r_iload_n dX10_weigh_11 rfl ?_
      refine c_VV (As := [.int v2]) kvX10_36 rfl (by decide) (okX10_force v2 u) rfl (Nat.le_of_ble_eq_true rfl) rfl dX10_weigh_12 (fun u1 => ?_)
      refine r_aload_n dX10_weigh_15 rfl ?_
      refine r_get 11 5 flX10_22 rfl (v := .ref 39) rfl dX10_weigh_16 ?_
      refine r_iload_n dX10_weigh_19 rfl ?_
      refine r_iald 39 rfl dX10_weigh_20 ?_
      refine r_aload_n dX10_weigh_21 rfl ?_
      refine r_get 11 4 flX10_40 rfl (v := .int (gI u1 11 4)) rfl dX10_weigh_22 ?_
      refine r_ior dX10_weigh_25 ?_
      refine r_istore_n dX10_weigh_26 (Nat.le_of_ble_eq_true rfl) (ls2 := [some (.ref 11), some (.int v1), some (.int v2), some (.int ((gA u1 39 v2) ||| (gI u1 11 4))), none]) rfl ?_
      refine r_aload_n dX10_weigh_27 rfl ?_
      refine r_iload_n dX10_weigh_28 rfl ?_
      refine r_aload_n dX10_weigh_29 rfl ?_
      refine r_get 11 5 flX10_22 rfl (v := .ref 39) rfl dX10_weigh_30 ?_
      refine r_iload_n dX10_weigh_33 rfl ?_
      refine r_iald 39 rfl dX10_weigh_34 ?_
      refine c_VI (As := [.int v2, .int (gA u1 39 v2)]) kvX10_43 rfl (by decide) (okX10_allows v2 (gA u1 39 v2) u1) rfl (Nat.le_of_ble_eq_true rfl) rfl dX10_weigh_35 (fun r2 u2 => ?_)
      refine r_istore dX10_weigh_38 (Nat.le_of_ble_eq_true rfl) (ls2 := [some (.ref 11), some (.int v1), some (.int v2), some (.int ((gA u1 39 v2) ||| (gI u1 11 4))), some (.int r2)]) rfl ?_
      refine r_aload_n dX10_weigh_40 rfl ?_
      refine r_get 11 6 flX10_25 rfl (v := .ref 40) rfl dX10_weigh_41 ?_
      refine r_iload_n dX10_weigh_44 rfl ?_
      refine r_iload dX10_weigh_45 rfl ?_
      refine r_if_eq dX10_weigh_47 (tgt := 62) rfl ?_ ?_
      · refine r_iconst dX10_weigh_62 (v := 0) rfl ?_
        refine r_mk [true, true, true, false, false] (ls2 := [some (.ref 11), some (.int v1), some (.int v2), none, none]) rfl ?_
        exact sX10_weigh_63 (fX10_weigh_4 n) ih v1 v2 v2 0 u2
      · refine r_iconst dX10_weigh_50 (v := 1) rfl ?_
        refine r_bipush dX10_weigh_51 (v := 8) rfl ?_
        refine r_iload_n dX10_weigh_53 rfl ?_
        refine c_SI (As := [.int ((gA u1 39 v2) ||| (gI u1 11 4))]) ksX10_47 (by decide) (okJ6_bitCount_0f7a4 ((gA u1 39 v2) ||| (gI u1 11 4)) u2) rfl (Nat.le_of_ble_eq_true rfl) rfl dX10_weigh_54 (fun r3 u3 => ?_)
        refine r_isub dX10_weigh_57 ?_
        refine r_ishl dX10_weigh_58 ?_
        refine r_goto dX10_weigh_59 (tgt := 63) rfl ?_
        refine r_mk [true, true, true, false, false] (ls2 := [some (.ref 11), some (.int v1), some (.int v2), none, none]) rfl ?_
        exact sX10_weigh_63 (fX10_weigh_4 n) ih v1 v2 v2 (1 <<< ((8 - r3) &&& 31)) u3
def fX10_weigh (u : US) : Option (Int32 × US) :=
  fX10_weigh_4 FU 0 0 u
set_option maxRecDepth 20000 in
theorem sX10_weigh (u : US) : Sim tI mX10_weigh 2 (fX10_weigh u) 0 [some (.ref 11), none, none, none, none] [] u := by
  unfold fX10_weigh
  refine r_iconst dX10_weigh_0 (v := 0) rfl ?_
  refine r_istore_n dX10_weigh_1 (Nat.le_of_ble_eq_true rfl) (ls2 := [some (.ref 11), some (.int 0), none, none, none]) rfl ?_
  refine r_iconst dX10_weigh_2 (v := 0) rfl ?_
  refine r_istore_n dX10_weigh_3 (Nat.le_of_ble_eq_true rfl) (ls2 := [some (.ref 11), some (.int 0), some (.int 0), none, none]) rfl ?_
  exact sX10_weigh_4 FU 0 0 u
theorem okX10_weigh (u : US) : ∀ r, fX10_weigh u = some r → MetC mX10_weigh 2 [.ref 11] u (tI r) :=
  met_of (by decide +kernel) (Nat.le_of_ble_eq_true rfl) rfl (sX10_weigh u)
def fX3_add (v1 : Int32) (u : US) : Option (US) :=
  (if (8 : Int32) ≤ (gI u 9 1) then some u else gd (inb (gI u 9 1) 8) (nx (sA u 34 (gI u 9 1) v1) fun u1 => nx (sI u1 9 1 ((gI u1 9 1) + 1)) fun u2 => some u2))
set_option maxRecDepth 20000 in
theorem sX3_add (v1 : Int32) (u : US) : Sim tV mX3_add 0 (fX3_add v1 u) 0 [some (.ref 9), some (.int v1)] [] u := by
  unfold fX3_add
  refine r_aload_n dX3_add_0 rfl ?_
  refine r_get 9 1 flX3_15 rfl (v := .int (gI u 9 1)) rfl dX3_add_1 ?_
  refine r_bipush dX3_add_4 (v := 8) rfl ?_
  refine r_icmp_ge dX3_add_6 (tgt := 29) rfl ?_ ?_
  · exact r_return rfl dX3_add_29
  · refine r_aload_n dX3_add_9 rfl ?_
    refine r_get 9 0 flX3_9 rfl (v := .ref 34) rfl dX3_add_10 ?_
    refine r_aload_n dX3_add_13 rfl ?_
    refine r_get 9 1 flX3_15 rfl (v := .int (gI u 9 1)) rfl dX3_add_14 ?_
    refine r_iload_n dX3_add_17 rfl ?_
    refine r_iast 34 rfl dX3_add_18 (r_nx (fun u1 => ?_))
    refine r_aload_n dX3_add_19 rfl ?_
    refine r_dup dX3_add_20 rfl ?_
    refine r_get 9 1 flX3_15 rfl (v := .int (gI u1 9 1)) rfl dX3_add_21 ?_
    refine r_iconst dX3_add_24 (v := 1) rfl ?_
    refine r_iadd dX3_add_25 ?_
    refine r_put 9 1 fpX3_15 rfl rfl dX3_add_26 (r_nx (fun u2 => ?_))
    exact r_return rfl dX3_add_29
theorem okX3_add (v1 : Int32) (u : US) : ∀ r, fX3_add v1 u = some r → MetC mX3_add 0 [.ref 9, .int v1] u (tV r) :=
  met_of (by decide +kernel) (Nat.le_of_ble_eq_true rfl) rfl (sX3_add v1 u)
def fX3_clear (u : US) : Option (US) :=
  nx (sI u 9 1 0) fun u1 => some u1
set_option maxRecDepth 20000 in
theorem sX3_clear (u : US) : Sim tV mX3_clear 0 (fX3_clear u) 0 [some (.ref 9)] [] u := by
  unfold fX3_clear
  refine r_aload_n dX3_clear_0 rfl ?_
  refine r_iconst dX3_clear_1 (v := 0) rfl ?_
  refine r_put 9 1 fpX3_15 rfl rfl dX3_clear_2 (r_nx (fun u1 => ?_))
  exact r_return rfl dX3_clear_5
theorem okX3_clear (u : US) : ∀ r, fX3_clear u = some r → MetC mX3_clear 0 [.ref 9] u (tV r) :=
  met_of (by decide +kernel) (Nat.le_of_ble_eq_true rfl) rfl (sX3_clear u)
def fX8_columnOf (v1 : Int32) (u : US) : Option (Int32 × US) :=
  (if (gI u 3 1) ≤ 0 then some (0, u) else if gI u 3 1 = 0 then none else some (v1 - v1 / (gI u 3 1) * (gI u 3 1), u))
set_option maxRecDepth 20000 in
theorem sX8_columnOf (v1 : Int32) (u : US) : Sim tI mX8_columnOf 0 (fX8_columnOf v1 u) 0 [some (.ref 3), some (.int v1)] [] u := by
  unfold fX8_columnOf
  refine r_aload_n dX8_columnOf_0 rfl ?_
  refine r_get 3 1 flX8_15 rfl (v := .int (gI u 3 1)) rfl dX8_columnOf_1 ?_
  refine r_if_le dX8_columnOf_4 (tgt := 16) rfl ?_ ?_
  · refine r_iconst dX8_columnOf_16 (v := 0) rfl ?_
    exact r_ireturn rfl dX8_columnOf_17
  · refine r_iload_n dX8_columnOf_7 rfl ?_
    refine r_aload_n dX8_columnOf_8 rfl ?_
    refine r_get 3 1 flX8_15 rfl (v := .int (gI u 3 1)) rfl dX8_columnOf_9 ?_
    refine r_irem dX8_columnOf_12 ?_
    refine r_goto dX8_columnOf_13 (tgt := 17) rfl ?_
    exact r_ireturn rfl dX8_columnOf_17
theorem okX8_columnOf (v1 : Int32) (u : US) : ∀ r, fX8_columnOf v1 u = some r → MetC mX8_columnOf 0 [.ref 3, .int v1] u (tI r) :=
  met_of (by decide +kernel) (Nat.le_of_ble_eq_true rfl) rfl (sX8_columnOf v1 u)
def fX8_rowOf (v1 : Int32) (u : US) : Option (Int32 × US) :=
  (if (gI u 3 1) ≤ 0 then some (0, u) else if gI u 3 1 = 0 then none else some (v1 / (gI u 3 1), u))
set_option maxRecDepth 20000 in
theorem sX8_rowOf (v1 : Int32) (u : US) : Sim tI mX8_rowOf 0 (fX8_rowOf v1 u) 0 [some (.ref 3), some (.int v1)] [] u := by
  unfold fX8_rowOf
  refine r_aload_n dX8_rowOf_0 rfl ?_
  refine r_get 3 1 flX8_15 rfl (v := .int (gI u 3 1)) rfl dX8_rowOf_1 ?_
  refine r_if_le dX8_rowOf_4 (tgt := 16) rfl ?_ ?_
  · refine r_iconst dX8_rowOf_16 (v := 0) rfl ?_
    exact r_ireturn rfl dX8_rowOf_17
  · refine r_iload_n dX8_rowOf_7 rfl ?_
    refine r_aload_n dX8_rowOf_8 rfl ?_
    refine r_get 3 1 flX8_15 rfl (v := .int (gI u 3 1)) rfl dX8_rowOf_9 ?_
    refine r_idiv dX8_rowOf_12 ?_
    refine r_goto dX8_rowOf_13 (tgt := 17) rfl ?_
    exact r_ireturn rfl dX8_rowOf_17
theorem okX8_rowOf (v1 : Int32) (u : US) : ∀ r, fX8_rowOf v1 u = some r → MetC mX8_rowOf 0 [.ref 3, .int v1] u (tI r) :=
  met_of (by decide +kernel) (Nat.le_of_ble_eq_true rfl) rfl (sX8_rowOf v1 u)
def fX8_reaches (v1 : Int32) (v2 : Int32) (u : US) : Option (Int32 × US) :=
  gd (inb v1 4) (oB (fX8_rowOf (gA u 20 v1) u) fun r1 u1 => oB (fX8_rowOf v2 u1) fun r2 u2 => gd (inb v1 4) (oB (fX8_columnOf (gA u2 20 v1) u2) fun r3 u3 => oB (fX8_columnOf v2 u3) fun r4 u4 => gd (inb v1 4) ((if (gA u4 21 v1) < ((if 0 ≤ (r1 - r2) then r1 - r2 else 0 - (r1 - r2)) + (if 0 ≤ (r3 - r4) then r3 - r4 else 0 - (r3 - r4))) then some (0, u4) else some (1, u4)))))
set_option maxRecDepth 20000 in
theorem sX8_reaches (v1 : Int32) (v2 : Int32) (u : US) : Sim tI mX8_reaches 5 (fX8_reaches v1 v2 u) 0 [some (.ref 3), some (.int v1), some (.int v2), none, none] [] u := by
  unfold fX8_reaches
  refine r_aload_n dX8_reaches_0 rfl ?_
  refine r_aload_n dX8_reaches_1 rfl ?_
  refine r_get 3 9 flX8_31 rfl (v := .ref 20) rfl dX8_reaches_2 ?_
  refine r_iload_n dX8_reaches_5 rfl ?_
  refine r_iald 20 rfl dX8_reaches_6 ?_
  refine c_VI (As := [.int (gA u 20 v1)]) kvX8_121 rfl (by decide) (okX8_rowOf (gA u 20 v1) u) rfl (Nat.le_of_ble_eq_true rfl) rfl dX8_reaches_7 (fun r1 u1 => ?_)
  refine r_aload_n dX8_reaches_10 rfl ?_
  refine r_iload_n dX8_reaches_11 rfl ?_
  refine c_VI (As := [.int v2]) kvX8_121 rfl (by decide) (okX8_rowOf v2 u1) rfl (Nat.le_of_ble_eq_true rfl) rfl dX8_reaches_12 (fun r2 u2 => ?_)
  refine r_isub dX8_reaches_15 ?_
  refine r_abs kmX8_127 ktMath_abs knMath kcMath_abs (by decide) (Nat.le_of_ble_eq_true rfl) dX8_reaches_16 ?_
  refine r_istore_n dX8_reaches_19 (Nat.le_of_ble_eq_true rfl) (ls2 := [some (.ref 3), some (.int v1), some (.int v2), some (.int (if 0 ≤ (r1 - r2) then r1 - r2 else 0 - (r1 - r2))), none]) rfl ?_
  refine r_aload_n dX8_reaches_20 rfl ?_
  refine r_aload_n dX8_reaches_21 rfl ?_
  refine r_get 3 9 flX8_31 rfl (v := .ref 20) rfl dX8_reaches_22 ?_
  refine r_iload_n dX8_reaches_25 rfl ?_
  refine r_iald 20 rfl dX8_reaches_26 ?_
  refine c_VI (As := [.int (gA u2 20 v1)]) kvX8_124 rfl (by decide) (okX8_columnOf (gA u2 20 v1) u2) rfl (Nat.le_of_ble_eq_true rfl) rfl dX8_reaches_27 (fun r3 u3 => ?_)
  refine r_aload_n dX8_reaches_30 rfl ?_
  refine r_iload_n dX8_reaches_31 rfl ?_
  refine c_VI (As := [.int v2]) kvX8_124 rfl (by decide) (okX8_columnOf v2 u3) rfl (Nat.le_of_ble_eq_true rfl) rfl dX8_reaches_32 (fun r4 u4 => ?_)
  refine r_isub dX8_reaches_35 ?_
  refine r_abs kmX8_127 ktMath_abs knMath kcMath_abs (by decide) (Nat.le_of_ble_eq_true rfl) dX8_reaches_36 ?_
  refine r_istore dX8_reaches_39 (Nat.le_of_ble_eq_true rfl) (ls2 := [some (.ref 3), some (.int v1), some (.int v2), some (.int (if 0 ≤ (r1 - r2) then r1 - r2 else 0 - (r1 - r2))), some (.int (if 0 ≤ (r3 - r4) then r3 - r4 else 0 - (r3 - r4)))]) rfl ?_
  refine r_iload_n dX8_reaches_41 rfl ?_
  refine r_iload dX8_reaches_42 rfl ?_
  refine r_iadd dX8_reaches_44 ?_
  refine r_aload_n dX8_reaches_45 rfl ?_
  refine r_get 3 10 flX8_34 rfl (v := .ref 21) rfl dX8_reaches_46 ?_
  refine r_iload_n dX8_reaches_49 rfl ?_
  refine r_iald 21 rfl dX8_reaches_50 ?_
  refine r_icmp_gt dX8_reaches_51 (tgt := 58) rfl ?_ ?_
  · refine r_iconst dX8_reaches_58 (v := 0) rfl ?_
    exact r_zreturn0 rfl dX8_reaches_59
  · refine r_iconst dX8_reaches_54 (v := 1) rfl ?_
    refine r_goto dX8_reaches_55 (tgt := 59) rfl ?_
    exact r_zreturn1 rfl dX8_reaches_59
theorem okX8_reaches (v1 : Int32) (v2 : Int32) (u : US) : ∀ r, fX8_reaches v1 v2 u = some r → MetC mX8_reaches 5 [.ref 3, .int v1, .int v2] u (tI r) :=
  met_of (by decide +kernel) (Nat.le_of_ble_eq_true rfl) rfl (sX8_reaches v1 v2 u)
def fX8_near_5 (v1 : Nat) (v2 : Int32) : Nat → Int32 → Int32 → US → Option (Int32 × US)
  | 0, _, _, _ => none
  | n + 1, v3, v4, u => (if (gI u 3 2) ≤ v4 then some (v3, u) else gd (inb v4 (ln (fpt v1 0))) (oB (fX8_reaches v2 (gA u (fpt v1 0) v4) u) fun r1 u1 => (if r1 = 0 then fX8_near_5 v1 v2 n v3 (v4 + 1) u1 else fX8_near_5 v1 v2 n (v3 ||| (1 <<< (v4 &&& 31))) (v4 + 1) u1)))
set_option maxRecDepth 20000 in
theorem sX8_near_5 (v1 : Nat) (v2 : Int32) (h1 : isMom v1 = true) : ∀ (n : Nat) (v3 : Int32) (v4 : Int32) (u : US), Sim tI mX8_near 6 (fX8_near_5 v1 v2 n v3 v4 u) 5 [some (.ref 3), some (.ref v1), some (.int v2), some (.int v3), some (.int v4)] [] u := by
  intro n
  induction n with
  | zero =>
    intro v3 v4 u
    rw [fX8_near_5.eq_1]
    exact r_none
  | succ n ih =>
    intro v3 v4 u
    rw [fX8_near_5.eq_2]
    refine r_iload dX8_near_5 rfl ?_
    refine r_aload_n dX8_near_7 rfl ?_
    refine r_get 3 2 flX8_44 rfl (v := .int (gI u 3 2)) rfl dX8_near_8 ?_
    refine r_icmp_ge dX8_near_11 (tgt := 42) rfl ?_ ?_
    · refine r_iload_n dX8_near_42 rfl ?_
      exact r_ireturn rfl dX8_near_43
    · refine r_aload_n dX8_near_14 rfl ?_
      refine r_iload_n dX8_near_15 rfl ?_
      refine r_aload_n dX8_near_16 rfl ?_
      refine r_get v1 0 flX8_73 (okO_mom h1) (v := .ref (fpt v1 0)) (slA_r (okO_mom h1) rfl rfl) dX8_near_17 ?_
      refine r_iload dX8_near_20 rfl ?_
      refine r_iald (fpt v1 0) (okA_mom h1 0 rfl) dX8_near_22 ?_
      refine c_VI (As := [.int v2, .int (gA u (fpt v1 0) v4)]) kvX8_130 rfl (by decide) (okX8_reaches v2 (gA u (fpt v1 0) v4) u) rfl (Nat.le_of_ble_eq_true rfl) rfl dX8_near_23 (fun r1 u1 => ?_)
      refine r_if_eq dX8_near_26 (tgt := 36) rfl ?_ ?_
      · refine r_iinc dX8_near_36 (Nat.le_of_ble_eq_true rfl) rfl (v := v4 + 1) rfl (ls2 := [some (.ref 3), some (.ref v1), some (.int v2), some (.int v3), some (.int (v4 + 1))]) rfl ?_
        refine r_goto dX8_near_39 (tgt := 5) rfl ?_
        exact ih v3 (v4 + 1) u1
      · refine r_iload_n dX8_near_29 rfl ?_
        refine r_iconst dX8_near_30 (v := 1) rfl ?_
        refine r_iload dX8_near_31 rfl ?_
        refine r_ishl dX8_near_33 ?_
        refine r_ior dX8_near_34 ?_
        refine r_istore_n dX8_near_35 (Nat.le_of_ble_eq_true rfl) (ls2 := [some (.ref 3), some (.ref v1), some (.int v2), some (.int (v3 ||| (1 <<< (v4 &&& 31)))), some (.int v4)]) rfl ?_
        refine r_iinc dX8_near_36 (Nat.le_of_ble_eq_true rfl) rfl (v := v4 + 1) rfl (ls2 := [some (.ref 3), some (.ref v1), some (.int v2), some (.int (v3 ||| (1 <<< (v4 &&& 31)))), some (.int (v4 + 1))]) rfl ?_
        refine r_goto dX8_near_39 (tgt := 5) rfl ?_
        exact ih (v3 ||| (1 <<< (v4 &&& 31))) (v4 + 1) u1
def fX8_near (v1 : Nat) (v2 : Int32) (u : US) : Option (Int32 × US) :=
  gd (isMom v1) (fX8_near_5 v1 v2 FU 0 0 u)
set_option maxRecDepth 20000 in
theorem sX8_near (v1 : Nat) (v2 : Int32) (u : US) : Sim tI mX8_near 6 (fX8_near v1 v2 u) 0 [some (.ref 3), some (.ref v1), some (.int v2), none, none] [] u := by
  unfold fX8_near
  refine r_gd (fun h1 => ?_)
  refine r_iconst dX8_near_0 (v := 0) rfl ?_
  refine r_istore_n dX8_near_1 (Nat.le_of_ble_eq_true rfl) (ls2 := [some (.ref 3), some (.ref v1), some (.int v2), some (.int 0), none]) rfl ?_
  refine r_iconst dX8_near_2 (v := 0) rfl ?_
  refine r_istore dX8_near_3 (Nat.le_of_ble_eq_true rfl) (ls2 := [some (.ref 3), some (.ref v1), some (.int v2), some (.int 0), some (.int 0)]) rfl ?_
  exact sX8_near_5 v1 v2 h1 FU 0 0 u
theorem okX8_near (v1 : Nat) (v2 : Int32) (u : US) : ∀ r, fX8_near v1 v2 u = some r → MetC mX8_near 6 [.ref 3, .ref v1, .int v2] u (tI r) :=
  met_of (by decide +kernel) (Nat.le_of_ble_eq_true rfl) rfl (sX8_near v1 v2 u)
def fX1_isBroken (v0 : Nat) (v1 : Int32) (u : US) : Option (Int32 × US) :=
  gd (isMom v0) (oB (fX11_has (gI u v0 3) v1 u) fun r1 u1 => gd (isB r1) (some (r1, u1)))
set_option maxRecDepth 20000 in
theorem sX1_isBroken (v0 : Nat) (v1 : Int32) (u : US) : Sim tI mX1_isBroken 1 (fX1_isBroken v0 v1 u) 0 [some (.ref v0), some (.int v1)] [] u := by
  unfold fX1_isBroken
  refine r_gd (fun h0 => ?_)
  refine r_aload_n dX1_isBroken_0 rfl ?_
  refine r_get v0 3 flX1_21 (okO_mom h0) (v := .int (gI u v0 3)) (slA_i (okO_mom h0) rfl) dX1_isBroken_1 ?_
  refine r_iload_n dX1_isBroken_4 rfl ?_
  refine c_NI (As := [.int (gI u v0 3), .int v1]) knX1_28 (by decide) (okX11_has (gI u v0 3) v1 u) rfl (Nat.le_of_ble_eq_true rfl) rfl dX1_isBroken_5 (fun r1 u1 => ?_)
  exact r_zreturn rfl dX1_isBroken_8
theorem okX1_isBroken (v0 : Nat) (v1 : Int32) (u : US) : ∀ r, fX1_isBroken v0 v1 u = some r → MetC mX1_isBroken 1 [.ref v0, .int v1] u (tI r) :=
  met_of (by decide +kernel) (Nat.le_of_ble_eq_true rfl) rfl (sX1_isBroken v0 v1 u)
def fX6_isName (v0 : Int32) (u : US) : Option (Int32 × US) :=
  (if v0 = 107 then some (1, u) else (if v0 = 115 then some (1, u) else (if v0 = 108 then some (1, u) else (if v0 = 104 then some (1, u) else (if v0 = 110 then some (1, u) else (if v0 = 116 then some (1, u) else some (0, u)))))))
set_option maxRecDepth 20000 in
theorem sX6_isName (v0 : Int32) (u : US) : Sim tI mX6_isName 0 (fX6_isName v0 u) 0 [some (.int v0)] [] u := by
  unfold fX6_isName
  refine r_iload_n dX6_isName_0 rfl ?_
  refine r_bipush dX6_isName_1 (v := 107) rfl ?_
  refine r_icmp_eq dX6_isName_3 (tgt := 36) rfl ?_ ?_
  · refine r_iconst dX6_isName_36 (v := 1) rfl ?_
    refine r_goto dX6_isName_37 (tgt := 41) rfl ?_
    exact r_zreturn1 rfl dX6_isName_41
  · refine r_iload_n dX6_isName_6 rfl ?_
    refine r_bipush dX6_isName_7 (v := 115) rfl ?_
    refine r_icmp_eq dX6_isName_9 (tgt := 36) rfl ?_ ?_
    · refine r_iconst dX6_isName_36 (v := 1) rfl ?_
      refine r_goto dX6_isName_37 (tgt := 41) rfl ?_
      exact r_zreturn1 rfl dX6_isName_41
    · refine r_iload_n dX6_isName_12 rfl ?_
      refine r_bipush dX6_isName_13 (v := 108) rfl ?_
      refine r_icmp_eq dX6_isName_15 (tgt := 36) rfl ?_ ?_
      · refine r_iconst dX6_isName_36 (v := 1) rfl ?_
        refine r_goto dX6_isName_37 (tgt := 41) rfl ?_
        exact r_zreturn1 rfl dX6_isName_41
      · refine r_iload_n dX6_isName_18 rfl ?_
        refine r_bipush dX6_isName_19 (v := 104) rfl ?_
        refine r_icmp_eq dX6_isName_21 (tgt := 36) rfl ?_ ?_
        · refine r_iconst dX6_isName_36 (v := 1) rfl ?_
          refine r_goto dX6_isName_37 (tgt := 41) rfl ?_
          exact r_zreturn1 rfl dX6_isName_41
        · refine r_iload_n dX6_isName_24 rfl ?_
          refine r_bipush dX6_isName_25 (v := 110) rfl ?_
          refine r_icmp_eq dX6_isName_27 (tgt := 36) rfl ?_ ?_
          · refine r_iconst dX6_isName_36 (v := 1) rfl ?_
            refine r_goto dX6_isName_37 (tgt := 41) rfl ?_
            exact r_zreturn1 rfl dX6_isName_41
          · refine r_iload_n dX6_isName_30 rfl ?_
            refine r_bipush dX6_isName_31 (v := 116) rfl ?_
            refine r_icmp_ne dX6_isName_33 (tgt := 40) rfl ?_ ?_
            · refine r_iconst dX6_isName_40 (v := 0) rfl ?_
              exact r_zreturn0 rfl dX6_isName_41
            · refine r_iconst dX6_isName_36 (v := 1) rfl ?_
              refine r_goto dX6_isName_37 (tgt := 41) rfl ?_
              exact r_zreturn1 rfl dX6_isName_41
theorem okX6_isName (v0 : Int32) (u : US) : ∀ r, fX6_isName v0 u = some r → MetC mX6_isName 0 [.int v0] u (tI r) :=
  met_of (by decide +kernel) (Nat.le_of_ble_eq_true rfl) rfl (sX6_isName v0 u)
def fX6_joined (v0 : Int32) (v1 : Int32) (v2 : Int32) (u : US) : Option (Int32 × US) :=
  (if v0 = 42 then some (v1 * v2, u) else (if v0 = 43 then some (v1 + v2, u) else (if v0 = 45 then some (v1 - v2, u) else (if v0 = 47 then (if v2 = 0 then some (0, u) else if v2 = 0 then none else some (v1 / v2, u)) else (if v0 = 60 then (if v2 ≤ v1 then some (0, u) else some (1, u)) else (if v0 = 62 then (if v1 ≤ v2 then some (0, u) else some (1, u)) else (if v1 = v2 then some (1, u) else some (0, u))))))))
set_option maxRecDepth 20000 in
theorem sX6_joined (v0 : Int32) (v1 : Int32) (v2 : Int32) (u : US) : Sim tI mX6_joined 0 (fX6_joined v0 v1 v2 u) 0 [some (.int v0), some (.int v1), some (.int v2)] [] u := by
  unfold fX6_joined
  refine r_iload_n dX6_joined_0 rfl ?_
  refine r_ite (fun hc0 => ?_) (fun hc0 => ?_)
  · refine r_look dX6_joined_1 (by decide) (off := 67) (by rw [hc0]; decide) (tgt := 68) rfl ?_
    refine r_iload_n dX6_joined_68 rfl ?_
    refine r_iload_n dX6_joined_69 rfl ?_
    refine r_imul dX6_joined_70 ?_
    exact r_ireturn rfl dX6_joined_71
  refine r_ite (fun hc1 => ?_) (fun hc1 => ?_)
  · refine r_look dX6_joined_1 (by decide) (off := 59) (by rw [hc1]; decide) (tgt := 60) rfl ?_
    refine r_iload_n dX6_joined_60 rfl ?_
    refine r_iload_n dX6_joined_61 rfl ?_
    refine r_iadd dX6_joined_62 ?_
    exact r_ireturn rfl dX6_joined_63
  refine r_ite (fun hc2 => ?_) (fun hc2 => ?_)
  · refine r_look dX6_joined_1 (by decide) (off := 63) (by rw [hc2]; decide) (tgt := 64) rfl ?_
    refine r_iload_n dX6_joined_64 rfl ?_
    refine r_iload_n dX6_joined_65 rfl ?_
    refine r_isub dX6_joined_66 ?_
    exact r_ireturn rfl dX6_joined_67
  refine r_ite (fun hc3 => ?_) (fun hc3 => ?_)
  · refine r_look dX6_joined_1 (by decide) (off := 71) (by rw [hc3]; decide) (tgt := 72) rfl ?_
    refine r_iload_n dX6_joined_72 rfl ?_
    refine r_if_ne dX6_joined_73 (tgt := 80) rfl ?_ ?_
    · refine r_iload_n dX6_joined_80 rfl ?_
      refine r_iload_n dX6_joined_81 rfl ?_
      refine r_idiv dX6_joined_82 ?_
      exact r_ireturn rfl dX6_joined_83
    · refine r_iconst dX6_joined_76 (v := 0) rfl ?_
      refine r_goto dX6_joined_77 (tgt := 83) rfl ?_
      exact r_ireturn rfl dX6_joined_83
  refine r_ite (fun hc4 => ?_) (fun hc4 => ?_)
  · refine r_look dX6_joined_1 (by decide) (off := 83) (by rw [hc4]; decide) (tgt := 84) rfl ?_
    refine r_iload_n dX6_joined_84 rfl ?_
    refine r_iload_n dX6_joined_85 rfl ?_
    refine r_icmp_ge dX6_joined_86 (tgt := 93) rfl ?_ ?_
    · refine r_iconst dX6_joined_93 (v := 0) rfl ?_
      exact r_ireturn rfl dX6_joined_94
    · refine r_iconst dX6_joined_89 (v := 1) rfl ?_
      refine r_goto dX6_joined_90 (tgt := 94) rfl ?_
      exact r_ireturn rfl dX6_joined_94
  refine r_ite (fun hc5 => ?_) (fun hc5 => ?_)
  · refine r_look dX6_joined_1 (by decide) (off := 94) (by rw [hc5]; decide) (tgt := 95) rfl ?_
    refine r_iload_n dX6_joined_95 rfl ?_
    refine r_iload_n dX6_joined_96 rfl ?_
    refine r_icmp_le dX6_joined_97 (tgt := 104) rfl ?_ ?_
    · refine r_iconst dX6_joined_104 (v := 0) rfl ?_
      exact r_ireturn rfl dX6_joined_105
    · refine r_iconst dX6_joined_100 (v := 1) rfl ?_
      refine r_goto dX6_joined_101 (tgt := 105) rfl ?_
      exact r_ireturn rfl dX6_joined_105
  refine r_look dX6_joined_1 (by decide) (off := 105) (by
    show Op.lookupswitch.offset [(42, 67), (43, 59), (45, 63), (47, 71), (60, 83), (62, 94)] _ _ = _
    rw [lv_osw (k := 42) (a := 42) hc0 rfl, lv_osw (k := 43) (a := 43) hc1 rfl, lv_osw (k := 45) (a := 45) hc2 rfl, lv_osw (k := 47) (a := 47) hc3 rfl, lv_osw (k := 60) (a := 60) hc4 rfl, lv_osw (k := 62) (a := 62) hc5 rfl]; rfl) (tgt := 106) rfl ?_
  refine r_iload_n dX6_joined_106 rfl ?_
  refine r_iload_n dX6_joined_107 rfl ?_
  refine r_icmp_ne dX6_joined_108 (tgt := 115) rfl ?_ ?_
  · refine r_iconst dX6_joined_115 (v := 0) rfl ?_
    exact r_ireturn rfl dX6_joined_116
  · refine r_iconst dX6_joined_111 (v := 1) rfl ?_
    refine r_goto dX6_joined_112 (tgt := 116) rfl ?_
    exact r_ireturn rfl dX6_joined_116
theorem okX6_joined (v0 : Int32) (v1 : Int32) (v2 : Int32) (u : US) : ∀ r, fX6_joined v0 v1 v2 u = some r → MetC mX6_joined 0 [.int v0, .int v1, .int v2] u (tI r) :=
  met_of (by decide +kernel) (Nat.le_of_ble_eq_true rfl) rfl (sX6_joined v0 v1 v2 u)
def fX6_named (v0 : Int32) (v1 : Int32) (v2 : Int32) (v3 : Int32) (v4 : Int32) (v5 : Int32) (u : US) : Option (Int32 × US) :=
  (if v0 = 104 then some ((ush v2 v3) &&& 1, u) else (if v0 = 107 then some (v3, u) else (if v0 = 108 then some (v1, u) else (if v0 = 110 then oB (fJ6_bitCount_0f7a4 v2 u) fun r1 u1 => some (r1, u1) else (if v0 = 115 then some (v4, u) else if (24 : Int32) = 0 then none else some (v5 - v5 / 24 * 24, u))))))
set_option maxRecDepth 20000 in
theorem sX6_named (v0 : Int32) (v1 : Int32) (v2 : Int32) (v3 : Int32) (v4 : Int32) (v5 : Int32) (u : US) : Sim tI mX6_named 1 (fX6_named v0 v1 v2 v3 v4 v5 u) 0 [some (.int v0), some (.int v1), some (.int v2), some (.int v3), some (.int v4), some (.int v5)] [] u := by
  unfold fX6_named
  refine r_iload_n dX6_named_0 rfl ?_
  refine r_ite (fun hc0 => ?_) (fun hc0 => ?_)
  · refine r_tabIn dX6_named_1 (off := 70) (by rw [hc0]; decide) (by rw [hc0]; decide) (by rw [hc0]; rfl) (tgt := 71) rfl ?_
    refine r_iload_n dX6_named_71 rfl ?_
    refine r_iload_n dX6_named_72 rfl ?_
    refine r_iushr dX6_named_73 ?_
    refine r_iconst dX6_named_74 (v := 1) rfl ?_
    refine r_iand dX6_named_75 ?_
    exact r_ireturn rfl dX6_named_76
  refine r_ite (fun hc1 => ?_) (fun hc1 => ?_)
  · refine r_tabIn dX6_named_1 (off := 63) (by rw [hc1]; decide) (by rw [hc1]; decide) (by rw [hc1]; rfl) (tgt := 64) rfl ?_
    refine r_iload_n dX6_named_64 rfl ?_
    exact r_ireturn rfl dX6_named_65
  refine r_ite (fun hc2 => ?_) (fun hc2 => ?_)
  · refine r_tabIn dX6_named_1 (off := 68) (by rw [hc2]; decide) (by rw [hc2]; decide) (by rw [hc2]; rfl) (tgt := 69) rfl ?_
    refine r_iload_n dX6_named_69 rfl ?_
    exact r_ireturn rfl dX6_named_70
  refine r_ite (fun hc3 => ?_) (fun hc3 => ?_)
  · refine r_tabIn dX6_named_1 (off := 76) (by rw [hc3]; decide) (by rw [hc3]; decide) (by rw [hc3]; rfl) (tgt := 77) rfl ?_
    refine r_iload_n dX6_named_77 rfl ?_
    refine c_SI (As := [.int v2]) ksX6_83 (by decide) (okJ6_bitCount_0f7a4 v2 u) rfl (Nat.le_of_ble_eq_true rfl) rfl dX6_named_78 (fun r1 u1 => ?_)
    exact r_ireturn rfl dX6_named_81
  refine r_ite (fun hc4 => ?_) (fun hc4 => ?_)
  · refine r_tabIn dX6_named_1 (off := 65) (by rw [hc4]; decide) (by rw [hc4]; decide) (by rw [hc4]; rfl) (tgt := 66) rfl ?_
    refine r_iload dX6_named_66 rfl ?_
    exact r_ireturn rfl dX6_named_68
  have hn0 := ne_int hc0
  have hn1 := ne_int hc1
  have hn2 := ne_int hc2
  have hn3 := ne_int hc3
  have hn4 := ne_int hc4
  rw [show (104 : Int32).toInt = 104 from rfl] at hn0
  rw [show (107 : Int32).toInt = 107 from rfl] at hn1
  rw [show (108 : Int32).toInt = 108 from rfl] at hn2
  rw [show (110 : Int32).toInt = 110 from rfl] at hn3
  rw [show (115 : Int32).toInt = 115 from rfl] at hn4
  refine r_tabX dX6_named_1 (tgt := 82) rfl ?_ ?_
  · intro h1 h2
    have hz : v0.toInt = 105 ∨ v0.toInt = 106 ∨ v0.toInt = 109 ∨ v0.toInt = 111 ∨ v0.toInt = 112 ∨ v0.toInt = 113 ∨ v0.toInt = 114 := by omega
    rcases hz with hz | hz | hz | hz | hz | hz | hz <;> (rw [hz]; rfl)
  refine r_iload dX6_named_82 rfl ?_
  refine r_bipush dX6_named_84 (v := 24) rfl ?_
  refine r_irem dX6_named_86 ?_
  exact r_ireturn rfl dX6_named_87
theorem okX6_named (v0 : Int32) (v1 : Int32) (v2 : Int32) (v3 : Int32) (v4 : Int32) (v5 : Int32) (u : US) : ∀ r, fX6_named v0 v1 v2 v3 v4 v5 u = some r → MetC mX6_named 1 [.int v0, .int v1, .int v2, .int v3, .int v4, .int v5] u (tI r) :=
  met_of (by decide +kernel) (Nat.le_of_ble_eq_true rfl) rfl (sX6_named v0 v1 v2 v3 v4 v5 u)
def fX6_lets_148 (v0 : Nat) (v1 : Int32) (v2 : Int32) (v3 : Int32) (v4 : Int32) (v5 : Int32) (k22 : Int32 → Int32 → US → Option (Int32 × US)) (v6 : Int32) (v7 : Int32) (v8 : Int32) (u : US) : Option (Int32 × US) :=
  (if v6 ≤ 1 then k22 v6 (v7 + 1) u else gd (inb ((v6 + (-1)) - 1) (ln (fpt v0 1))) (gd (inb (v6 + (-1)) (ln (fpt v0 1))) (oB (fX6_joined v8 (gA u (fpt v0 1) ((v6 + (-1)) - 1)) (gA u (fpt v0 1) (v6 + (-1))) u) fun r1 u1 => gd (inb ((v6 + (-1)) - 1) (ln (fpt v0 1))) (nx (sA u1 (fpt v0 1) ((v6 + (-1)) - 1) r1) fun u2 => k22 (v6 + (-1)) (v7 + 1) u2))))
set_option maxRecDepth 20000 in
theorem sX6_lets_148 (v0 : Nat) (v1 : Int32) (v2 : Int32) (v3 : Int32) (v4 : Int32) (v5 : Int32) (h0 : isRul v0 = true) (k22 : Int32 → Int32 → US → Option (Int32 × US)) (hk22 : ∀ (v6 : Int32) (v7 : Int32) (u : US), Sim tI mX6_lets 2 (k22 v6 v7 u) 22 [some (.ref v0), some (.int v1), some (.int v2), some (.int v3), some (.int v4), some (.int v5), some (.int v6), some (.int v7), none] [] u) (v6 : Int32) (v7 : Int32) (v8 : Int32) (u : US) : Sim tI mX6_lets 2 (fX6_lets_148 v0 v1 v2 v3 v4 v5 k22 v6 v7 v8 u) 148 [some (.ref v0), some (.int v1), some (.int v2), some (.int v3), some (.int v4), some (.int v5), some (.int v6), some (.int v7), some (.int v8)] [] u := by
  unfold fX6_lets_148
  refine r_iload dX6_lets_148 rfl ?_
  refine r_iconst dX6_lets_150 (v := 1) rfl ?_
  refine r_icmp_le dX6_lets_151 (tgt := 187) rfl ?_ ?_
  · refine r_iinc dX6_lets_187 (Nat.le_of_ble_eq_true rfl) rfl (v := v7 + 1) rfl (ls2 := [some (.ref v0), some (.int v1), some (.int v2), some (.int v3), some (.int v4), some (.int v5), some (.int v6), some (.int (v7 + 1)), some (.int v8)]) rfl ?_
    refine r_goto dX6_lets_190 (tgt := 22) rfl ?_
    refine r_mk [true, true, true, true, true, true, true, true, false] (ls2 := [some (.ref v0), some (.int v1), some (.int v2), some (.int v3), some (.int v4), some (.int v5), some (.int v6), some (.int (v7 + 1)), none]) rfl ?_
    exact hk22 v6 (v7 + 1) u
  · refine r_iinc dX6_lets_154 (Nat.le_of_ble_eq_true rfl) rfl (v := v6 + (-1)) rfl (ls2 := [some (.ref v0), some (.int v1), some (.int v2), some (.int v3), some (.int v4), some (.int v5), some (.int (v6 + (-1))), some (.int v7), some (.int v8)]) rfl ?_
    refine r_aload_n dX6_lets_157 rfl ?_
    refine r_get v0 1 flX6_15 (okO_rul h0) (v := .ref (fpt v0 1)) (slA_r (okO_rul h0) rfl rfl) dX6_lets_158 ?_
    refine r_iload dX6_lets_161 rfl ?_
    refine r_iconst dX6_lets_163 (v := 1) rfl ?_
    refine r_isub dX6_lets_164 ?_
    refine r_iload dX6_lets_165 rfl ?_
    refine r_aload_n dX6_lets_167 rfl ?_
    refine r_get v0 1 flX6_15 (okO_rul h0) (v := .ref (fpt v0 1)) (slA_r (okO_rul h0) rfl rfl) dX6_lets_168 ?_
    refine r_iload dX6_lets_171 rfl ?_
    refine r_iconst dX6_lets_173 (v := 1) rfl ?_
    refine r_isub dX6_lets_174 ?_
    refine r_iald (fpt v0 1) (okA_rul h0 1 rfl) dX6_lets_175 ?_
    refine r_aload_n dX6_lets_176 rfl ?_
    refine r_get v0 1 flX6_15 (okO_rul h0) (v := .ref (fpt v0 1)) (slA_r (okO_rul h0) rfl rfl) dX6_lets_177 ?_
    refine r_iload dX6_lets_180 rfl ?_
    refine r_iald (fpt v0 1) (okA_rul h0 1 rfl) dX6_lets_182 ?_
    refine c_SI (As := [.int v8, .int (gA u (fpt v0 1) ((v6 + (-1)) - 1)), .int (gA u (fpt v0 1) (v6 + (-1)))]) ksX6_79 (by decide) (okX6_joined v8 (gA u (fpt v0 1) ((v6 + (-1)) - 1)) (gA u (fpt v0 1) (v6 + (-1))) u) rfl (Nat.le_of_ble_eq_true rfl) rfl dX6_lets_183 (fun r1 u1 => ?_)
    refine r_iast (fpt v0 1) (okA_rul h0 1 rfl) dX6_lets_186 (r_nx (fun u2 => ?_))
    refine r_iinc dX6_lets_187 (Nat.le_of_ble_eq_true rfl) rfl (v := v7 + 1) rfl (ls2 := [some (.ref v0), some (.int v1), some (.int v2), some (.int v3), some (.int v4), some (.int v5), some (.int (v6 + (-1))), some (.int (v7 + 1)), some (.int v8)]) rfl ?_
    refine r_goto dX6_lets_190 (tgt := 22) rfl ?_
    refine r_mk [true, true, true, true, true, true, true, true, false] (ls2 := [some (.ref v0), some (.int v1), some (.int v2), some (.int v3), some (.int v4), some (.int v5), some (.int (v6 + (-1))), some (.int (v7 + 1)), none]) rfl ?_
    exact hk22 (v6 + (-1)) (v7 + 1) u2
def fX6_lets_108 (v0 : Nat) (v1 : Int32) (v2 : Int32) (v3 : Int32) (v4 : Int32) (v5 : Int32) (k22 : Int32 → Int32 → US → Option (Int32 × US)) (v6 : Int32) (v7 : Int32) (v8 : Int32) (u : US) : Option (Int32 × US) :=
  oB (fX6_isName v8 u) fun r1 u1 => (if r1 = 0 then fX6_lets_148 v0 v1 v2 v3 v4 v5 k22 v6 v7 v8 u1 else (if (40 : Int32) ≤ v6 then fX6_lets_148 v0 v1 v2 v3 v4 v5 k22 v6 v7 v8 u1 else oB (fX6_named v8 v1 v2 v3 v4 v5 u1) fun r2 u2 => gd (inb v6 (ln (fpt v0 1))) (nx (sA u2 (fpt v0 1) v6 r2) fun u3 => k22 (v6 + 1) (v7 + 1) u3)))
set_option maxRecDepth 20000 in
theorem sX6_lets_108 (v0 : Nat) (v1 : Int32) (v2 : Int32) (v3 : Int32) (v4 : Int32) (v5 : Int32) (h0 : isRul v0 = true) (k22 : Int32 → Int32 → US → Option (Int32 × US)) (hk22 : ∀ (v6 : Int32) (v7 : Int32) (u : US), Sim tI mX6_lets 2 (k22 v6 v7 u) 22 [some (.ref v0), some (.int v1), some (.int v2), some (.int v3), some (.int v4), some (.int v5), some (.int v6), some (.int v7), none] [] u) (v6 : Int32) (v7 : Int32) (v8 : Int32) (u : US) : Sim tI mX6_lets 2 (fX6_lets_108 v0 v1 v2 v3 v4 v5 k22 v6 v7 v8 u) 108 [some (.ref v0), some (.int v1), some (.int v2), some (.int v3), some (.int v4), some (.int v5), some (.int v6), some (.int v7), some (.int v8)] [] u := by
  unfold fX6_lets_108
  refine r_iload dX6_lets_108 rfl ?_
  refine c_SI (As := [.int v8]) ksX6_64 (by decide) (okX6_isName v8 u) rfl (Nat.le_of_ble_eq_true rfl) rfl dX6_lets_110 (fun r1 u1 => ?_)
  refine r_if_eq dX6_lets_113 (tgt := 148) rfl ?_ ?_
  · exact sX6_lets_148 v0 v1 v2 v3 v4 v5 h0 k22 hk22 v6 v7 v8 u1
  · refine r_iload dX6_lets_116 rfl ?_
    refine r_bipush dX6_lets_118 (v := 40) rfl ?_
    refine r_icmp_ge dX6_lets_120 (tgt := 148) rfl ?_ ?_
    · exact sX6_lets_148 v0 v1 v2 v3 v4 v5 h0 k22 hk22 v6 v7 v8 u1
    · refine r_aload_n dX6_lets_123 rfl ?_
      refine r_get v0 1 flX6_15 (okO_rul h0) (v := .ref (fpt v0 1)) (slA_r (okO_rul h0) rfl rfl) dX6_lets_124 ?_
      refine r_iload dX6_lets_127 rfl ?_
      refine r_iload dX6_lets_129 rfl ?_
      refine r_iload_n dX6_lets_131 rfl ?_
      refine r_iload_n dX6_lets_132 rfl ?_
      refine r_iload_n dX6_lets_133 rfl ?_
      refine r_iload dX6_lets_134 rfl ?_
      refine r_iload dX6_lets_136 rfl ?_
      refine c_SI (As := [.int v8, .int v1, .int v2, .int v3, .int v4, .int v5]) ksX6_75 (by decide) (okX6_named v8 v1 v2 v3 v4 v5 u1) rfl (Nat.le_of_ble_eq_true rfl) rfl dX6_lets_138 (fun r2 u2 => ?_)
      refine r_iast (fpt v0 1) (okA_rul h0 1 rfl) dX6_lets_141 (r_nx (fun u3 => ?_))
      refine r_iinc dX6_lets_142 (Nat.le_of_ble_eq_true rfl) rfl (v := v6 + 1) rfl (ls2 := [some (.ref v0), some (.int v1), some (.int v2), some (.int v3), some (.int v4), some (.int v5), some (.int (v6 + 1)), some (.int v7), some (.int v8)]) rfl ?_
      refine r_goto dX6_lets_145 (tgt := 187) rfl ?_
      refine r_iinc dX6_lets_187 (Nat.le_of_ble_eq_true rfl) rfl (v := v7 + 1) rfl (ls2 := [some (.ref v0), some (.int v1), some (.int v2), some (.int v3), some (.int v4), some (.int v5), some (.int (v6 + 1)), some (.int (v7 + 1)), some (.int v8)]) rfl ?_
      refine r_goto dX6_lets_190 (tgt := 22) rfl ?_
      refine r_mk [true, true, true, true, true, true, true, true, false] (ls2 := [some (.ref v0), some (.int v1), some (.int v2), some (.int v3), some (.int v4), some (.int v5), some (.int (v6 + 1)), some (.int (v7 + 1)), none]) rfl ?_
      exact hk22 (v6 + 1) (v7 + 1) u3
def fX6_lets_74 (v0 : Nat) (v1 : Int32) (v2 : Int32) (v3 : Int32) (v4 : Int32) (v5 : Int32) (k22 : Int32 → Int32 → US → Option (Int32 × US)) (v6 : Int32) (v7 : Int32) (v8 : Int32) (u : US) : Option (Int32 × US) :=
  (if v8 < 1000 then fX6_lets_108 v0 v1 v2 v3 v4 v5 k22 v6 v7 v8 u else (if (40 : Int32) ≤ v6 then fX6_lets_108 v0 v1 v2 v3 v4 v5 k22 v6 v7 v8 u else gd (inb v6 (ln (fpt v0 1))) (nx (sA u (fpt v0 1) v6 (v8 - 1000)) fun u1 => k22 (v6 + 1) (v7 + 1) u1)))
set_option maxRecDepth 20000 in
theorem sX6_lets_74 (v0 : Nat) (v1 : Int32) (v2 : Int32) (v3 : Int32) (v4 : Int32) (v5 : Int32) (h0 : isRul v0 = true) (k22 : Int32 → Int32 → US → Option (Int32 × US)) (hk22 : ∀ (v6 : Int32) (v7 : Int32) (u : US), Sim tI mX6_lets 2 (k22 v6 v7 u) 22 [some (.ref v0), some (.int v1), some (.int v2), some (.int v3), some (.int v4), some (.int v5), some (.int v6), some (.int v7), none] [] u) (v6 : Int32) (v7 : Int32) (v8 : Int32) (u : US) : Sim tI mX6_lets 2 (fX6_lets_74 v0 v1 v2 v3 v4 v5 k22 v6 v7 v8 u) 74 [some (.ref v0), some (.int v1), some (.int v2), some (.int v3), some (.int v4), some (.int v5), some (.int v6), some (.int v7), some (.int v8)] [] u := by
  unfold fX6_lets_74
  refine r_iload dX6_lets_74 rfl ?_
  refine r_sipush dX6_lets_76 (v := 1000) rfl ?_
  refine r_icmp_lt dX6_lets_79 (tgt := 108) rfl ?_ ?_
  · exact sX6_lets_108 v0 v1 v2 v3 v4 v5 h0 k22 hk22 v6 v7 v8 u
  · refine r_iload dX6_lets_82 rfl ?_
    refine r_bipush dX6_lets_84 (v := 40) rfl ?_
    refine r_icmp_ge dX6_lets_86 (tgt := 108) rfl ?_ ?_
    · exact sX6_lets_108 v0 v1 v2 v3 v4 v5 h0 k22 hk22 v6 v7 v8 u
    · refine r_aload_n dX6_lets_89 rfl ?_
      refine r_get v0 1 flX6_15 (okO_rul h0) (v := .ref (fpt v0 1)) (slA_r (okO_rul h0) rfl rfl) dX6_lets_90 ?_
      refine r_iload dX6_lets_93 rfl ?_
      refine r_iload dX6_lets_95 rfl ?_
      refine r_sipush dX6_lets_97 (v := 1000) rfl ?_
      refine r_isub dX6_lets_100 ?_
      refine r_iast (fpt v0 1) (okA_rul h0 1 rfl) dX6_lets_101 (r_nx (fun u1 => ?_))
      refine r_iinc dX6_lets_102 (Nat.le_of_ble_eq_true rfl) rfl (v := v6 + 1) rfl (ls2 := [some (.ref v0), some (.int v1), some (.int v2), some (.int v3), some (.int v4), some (.int v5), some (.int (v6 + 1)), some (.int v7), some (.int v8)]) rfl ?_
      refine r_goto dX6_lets_105 (tgt := 187) rfl ?_
      refine r_iinc dX6_lets_187 (Nat.le_of_ble_eq_true rfl) rfl (v := v7 + 1) rfl (ls2 := [some (.ref v0), some (.int v1), some (.int v2), some (.int v3), some (.int v4), some (.int v5), some (.int (v6 + 1)), some (.int (v7 + 1)), some (.int v8)]) rfl ?_
      refine r_goto dX6_lets_190 (tgt := 22) rfl ?_
      refine r_mk [true, true, true, true, true, true, true, true, false] (ls2 := [some (.ref v0), some (.int v1), some (.int v2), some (.int v3), some (.int v4), some (.int v5), some (.int (v6 + 1)), some (.int (v7 + 1)), none]) rfl ?_
      exact hk22 (v6 + 1) (v7 + 1) u1
def fX6_lets_22 (v0 : Nat) (v1 : Int32) (v2 : Int32) (v3 : Int32) (v4 : Int32) (v5 : Int32) : Nat → Int32 → Int32 → US → Option (Int32 × US)
  | 0, _, _, _ => none
  | n + 1, v6, v7, u => (if (gI u v0 2) ≤ v7 then gd (inb 0 (ln (fpt v0 1))) ((if (gA u (fpt v0 1) 0) = 0 then some (0, u) else some (1, u))) else gd (inb v7 (ln (fpt v0 0))) ((if (gA u (fpt v0 0) v7) = 126 then (if v6 ≤ 0 then fX6_lets_74 v0 v1 v2 v3 v4 v5 (fX6_lets_22 v0 v1 v2 v3 v4 v5 n) v6 v7 (gA u (fpt v0 0) v7) u else gd (inb (v6 - 1) (ln (fpt v0 1))) (gd (inb (v6 - 1) (ln (fpt v0 1))) (nx (sA u (fpt v0 1) (v6 - 1) (-(gA u (fpt v0 1) (v6 - 1)))) fun u1 => fX6_lets_22 v0 v1 v2 v3 v4 v5 n v6 (v7 + 1) u1))) else fX6_lets_74 v0 v1 v2 v3 v4 v5 (fX6_lets_22 v0 v1 v2 v3 v4 v5 n) v6 v7 (gA u (fpt v0 0) v7) u)))
set_option maxRecDepth 20000 in
theorem sX6_lets_22 (v0 : Nat) (v1 : Int32) (v2 : Int32) (v3 : Int32) (v4 : Int32) (v5 : Int32) (h0 : isRul v0 = true) : ∀ (n : Nat) (v6 : Int32) (v7 : Int32) (u : US), Sim tI mX6_lets 2 (fX6_lets_22 v0 v1 v2 v3 v4 v5 n v6 v7 u) 22 [some (.ref v0), some (.int v1), some (.int v2), some (.int v3), some (.int v4), some (.int v5), some (.int v6), some (.int v7), none] [] u := by
  intro n
  induction n with
  | zero =>
    intro v6 v7 u
    rw [fX6_lets_22.eq_1]
    exact r_none
  | succ n ih =>
    intro v6 v7 u
    rw [fX6_lets_22.eq_2]
    refine r_iload dX6_lets_22 rfl ?_
    refine r_aload_n dX6_lets_24 rfl ?_
    refine r_get v0 2 flX6_18 (okO_rul h0) (v := .int (gI u v0 2)) (slA_i (okO_rul h0) rfl) dX6_lets_25 ?_
    refine r_icmp_ge dX6_lets_28 (tgt := 193) rfl ?_ ?_
    · refine r_aload_n dX6_lets_193 rfl ?_
      refine r_get v0 1 flX6_15 (okO_rul h0) (v := .ref (fpt v0 1)) (slA_r (okO_rul h0) rfl rfl) dX6_lets_194 ?_
      refine r_iconst dX6_lets_197 (v := 0) rfl ?_
      refine r_iald (fpt v0 1) (okA_rul h0 1 rfl) dX6_lets_198 ?_
      refine r_if_eq dX6_lets_199 (tgt := 206) rfl ?_ ?_
      · refine r_iconst dX6_lets_206 (v := 0) rfl ?_
        exact r_zreturn0 rfl dX6_lets_207
      · refine r_iconst dX6_lets_202 (v := 1) rfl ?_
        refine r_goto dX6_lets_203 (tgt := 207) rfl ?_
        exact r_zreturn1 rfl dX6_lets_207
    · refine r_aload_n dX6_lets_31 rfl ?_
      refine r_get v0 0 flX6_9 (okO_rul h0) (v := .ref (fpt v0 0)) (slA_r (okO_rul h0) rfl rfl) dX6_lets_32 ?_
      refine r_iload dX6_lets_35 rfl ?_
      refine r_iald (fpt v0 0) (okA_rul h0 0 rfl) dX6_lets_37 ?_
      refine r_istore dX6_lets_38 (Nat.le_of_ble_eq_true rfl) (ls2 := [some (.ref v0), some (.int v1), some (.int v2), some (.int v3), some (.int v4), some (.int v5), some (.int v6), some (.int v7), some (.int (gA u (fpt v0 0) v7))]) rfl ?_
      refine r_iload dX6_lets_40 rfl ?_
      refine r_bipush dX6_lets_42 (v := 126) rfl ?_
      refine r_icmp_ne dX6_lets_44 (tgt := 74) rfl ?_ ?_
      · exact sX6_lets_74 v0 v1 v2 v3 v4 v5 h0 (fX6_lets_22 v0 v1 v2 v3 v4 v5 n) ih v6 v7 (gA u (fpt v0 0) v7) u
      · refine r_iload dX6_lets_47 rfl ?_
        refine r_if_le dX6_lets_49 (tgt := 74) rfl ?_ ?_
        · exact sX6_lets_74 v0 v1 v2 v3 v4 v5 h0 (fX6_lets_22 v0 v1 v2 v3 v4 v5 n) ih v6 v7 (gA u (fpt v0 0) v7) u
        · refine r_aload_n dX6_lets_52 rfl ?_
          refine r_get v0 1 flX6_15 (okO_rul h0) (v := .ref (fpt v0 1)) (slA_r (okO_rul h0) rfl rfl) dX6_lets_53 ?_
          refine r_iload dX6_lets_56 rfl ?_
          refine r_iconst dX6_lets_58 (v := 1) rfl ?_
          refine r_isub dX6_lets_59 ?_
          refine r_aload_n dX6_lets_60 rfl ?_
          refine r_get v0 1 flX6_15 (okO_rul h0) (v := .ref (fpt v0 1)) (slA_r (okO_rul h0) rfl rfl) dX6_lets_61 ?_
          refine r_iload dX6_lets_64 rfl ?_
          refine r_iconst dX6_lets_66 (v := 1) rfl ?_
          refine r_isub dX6_lets_67 ?_
          refine r_iald (fpt v0 1) (okA_rul h0 1 rfl) dX6_lets_68 ?_
          refine r_ineg dX6_lets_69 ?_
          refine r_iast (fpt v0 1) (okA_rul h0 1 rfl) dX6_lets_70 (r_nx (fun u1 => ?_))
          refine r_goto dX6_lets_71 (tgt := 187) rfl ?_
          refine r_iinc dX6_lets_187 (Nat.le_of_ble_eq_true rfl) rfl (v := v7 + 1) rfl (ls2 := [some (.ref v0), some (.int v1), some (.int v2), some (.int v3), some (.int v4), some (.int v5), some (.int v6), some (.int (v7 + 1)), some (.int (gA u (fpt v0 0) v7))]) rfl ?_
          refine r_goto dX6_lets_190 (tgt := 22) rfl ?_
          refine r_mk [true, true, true, true, true, true, true, true, false] (ls2 := [some (.ref v0), some (.int v1), some (.int v2), some (.int v3), some (.int v4), some (.int v5), some (.int v6), some (.int (v7 + 1)), none]) rfl ?_
          exact ih v6 (v7 + 1) u1
def fX6_lets (v0 : Nat) (v1 : Int32) (v2 : Int32) (v3 : Int32) (v4 : Int32) (v5 : Int32) (u : US) : Option (Int32 × US) :=
  gd (isRul v0) ((if (gI u v0 2) = 0 then oB (fX11_bears v1 v2 v3 v4 u) fun r1 u1 => gd (isB r1) (some (r1, u1)) else fX6_lets_22 v0 v1 v2 v3 v4 v5 FU 0 0 u))
set_option maxRecDepth 20000 in
theorem sX6_lets (v0 : Nat) (v1 : Int32) (v2 : Int32) (v3 : Int32) (v4 : Int32) (v5 : Int32) (u : US) : Sim tI mX6_lets 2 (fX6_lets v0 v1 v2 v3 v4 v5 u) 0 [some (.ref v0), some (.int v1), some (.int v2), some (.int v3), some (.int v4), some (.int v5), none, none, none] [] u := by
  unfold fX6_lets
  refine r_gd (fun h0 => ?_)
  refine r_aload_n dX6_lets_0 rfl ?_
  refine r_get v0 2 flX6_18 (okO_rul h0) (v := .int (gI u v0 2)) (slA_i (okO_rul h0) rfl) dX6_lets_1 ?_
  refine r_if_ne dX6_lets_4 (tgt := 16) rfl ?_ ?_
  · refine r_iconst dX6_lets_16 (v := 0) rfl ?_
    refine r_istore dX6_lets_17 (Nat.le_of_ble_eq_true rfl) (ls2 := [some (.ref v0), some (.int v1), some (.int v2), some (.int v3), some (.int v4), some (.int v5), some (.int 0), none, none]) rfl ?_
    refine r_iconst dX6_lets_19 (v := 0) rfl ?_
    refine r_istore dX6_lets_20 (Nat.le_of_ble_eq_true rfl) (ls2 := [some (.ref v0), some (.int v1), some (.int v2), some (.int v3), some (.int v4), some (.int v5), some (.int 0), some (.int 0), none]) rfl ?_
    exact sX6_lets_22 v0 v1 v2 v3 v4 v5 h0 FU 0 0 u
  · refine r_iload_n dX6_lets_7 rfl ?_
    refine r_iload_n dX6_lets_8 rfl ?_
    refine r_iload_n dX6_lets_9 rfl ?_
    refine r_iload dX6_lets_10 rfl ?_
    refine c_NI (As := [.int v1, .int v2, .int v3, .int v4]) knX6_71 (by decide) (okX11_bears v1 v2 v3 v4 u) rfl (Nat.le_of_ble_eq_true rfl) rfl dX6_lets_12 (fun r1 u1 => ?_)
    exact r_zreturn rfl dX6_lets_15
theorem okX6_lets (v0 : Nat) (v1 : Int32) (v2 : Int32) (v3 : Int32) (v4 : Int32) (v5 : Int32) (u : US) : ∀ r, fX6_lets v0 v1 v2 v3 v4 v5 u = some r → MetC mX6_lets 2 [.ref v0, .int v1, .int v2, .int v3, .int v4, .int v5] u (tI r) :=
  met_of (by decide +kernel) (Nat.le_of_ble_eq_true rfl) rfl (sX6_lets v0 v1 v2 v3 v4 v5 u)
def fX8_lets (v1 : Nat) (v2 : Int32) (v3 : Int32) (v4 : Int32) (v5 : Int32) (u : US) : Option (Int32 × US) :=
  gd (isMom v1) (oB (fX1_isBroken v1 v3 u) fun r1 u1 => (if r1 = 0 then gd (inb v3 8) (gd (inb v3 8) (gd (isRul (gR u1 0)) (oB (fX6_lets (gR u1 0) (gA u1 18 v3) (gA u1 19 v3) v4 v5 v2 u1) fun r3 u3 => (if r3 = 0 then some (0, u3) else some (1, u3))))) else some (1, u1)))
set_option maxRecDepth 20000 in
theorem sX8_lets (v1 : Nat) (v2 : Int32) (v3 : Int32) (v4 : Int32) (v5 : Int32) (u : US) : Sim tI mX8_lets 3 (fX8_lets v1 v2 v3 v4 v5 u) 0 [some (.ref 3), some (.ref v1), some (.int v2), some (.int v3), some (.int v4), some (.int v5)] [] u := by
  unfold fX8_lets
  refine r_gd (fun h1 => ?_)
  refine r_aload_n dX8_lets_0 rfl ?_
  refine r_iload_n dX8_lets_1 rfl ?_
  refine c_VI (As := [.int v3]) kvX8_138 (okO_mom h1) (by decide) (okX1_isBroken v1 v3 u) rfl (Nat.le_of_ble_eq_true rfl) rfl dX8_lets_2 (fun r1 u1 => ?_)
  refine r_if_ne dX8_lets_5 (tgt := 35) rfl ?_ ?_
  · refine r_iconst dX8_lets_35 (v := 1) rfl ?_
    refine r_goto dX8_lets_36 (tgt := 40) rfl ?_
    exact r_zreturn1 rfl dX8_lets_40
  · refine r_aload_n dX8_lets_8 rfl ?_
    refine r_get 3 11 flX8_40 rfl (v := .ref (gR u1 0)) rfl dX8_lets_9 ?_
    refine r_aload_n dX8_lets_12 rfl ?_
    refine r_get 3 7 flX8_25 rfl (v := .ref 18) rfl dX8_lets_13 ?_
    refine r_iload_n dX8_lets_16 rfl ?_
    refine r_iald 18 rfl dX8_lets_17 ?_
    refine r_aload_n dX8_lets_18 rfl ?_
    refine r_get 3 8 flX8_28 rfl (v := .ref 19) rfl dX8_lets_19 ?_
    refine r_iload_n dX8_lets_22 rfl ?_
    refine r_iald 19 rfl dX8_lets_23 ?_
    refine r_iload dX8_lets_24 rfl ?_
    refine r_iload dX8_lets_26 rfl ?_
    refine r_iload_n dX8_lets_28 rfl ?_
    refine r_gd (fun hq2 => ?_)
    refine c_VI (As := [.int (gA u1 18 v3), .int (gA u1 19 v3), .int v4, .int v5, .int v2]) kvX8_142 (okO_rul hq2) (by decide) (okX6_lets (gR u1 0) (gA u1 18 v3) (gA u1 19 v3) v4 v5 v2 u1) rfl (Nat.le_of_ble_eq_true rfl) rfl dX8_lets_29 (fun r3 u3 => ?_)
    refine r_if_eq dX8_lets_32 (tgt := 39) rfl ?_ ?_
    · refine r_iconst dX8_lets_39 (v := 0) rfl ?_
      exact r_zreturn0 rfl dX8_lets_40
    · refine r_iconst dX8_lets_35 (v := 1) rfl ?_
      refine r_goto dX8_lets_36 (tgt := 40) rfl ?_
      exact r_zreturn1 rfl dX8_lets_40
theorem okX8_lets (v1 : Nat) (v2 : Int32) (v3 : Int32) (v4 : Int32) (v5 : Int32) (u : US) : ∀ r, fX8_lets v1 v2 v3 v4 v5 u = some r → MetC mX8_lets 3 [.ref 3, .ref v1, .int v2, .int v3, .int v4, .int v5] u (tI r) :=
  met_of (by decide +kernel) (Nat.le_of_ble_eq_true rfl) rfl (sX8_lets v1 v2 v3 v4 v5 u)
def fX8_through_6 (v1 : Nat) (v2 : Int32) (v3 : Int32) : Nat → Int32 → Int32 → US → Option (Int32 × US)
  | 0, _, _, _ => none
  | n + 1, v4, v5, u => (if (gI u 3 2) ≤ v5 then some (v4, u) else oB (fX11_has v3 v5 u) fun r1 u1 => (if r1 = 0 then fX8_through_6 v1 v2 v3 n v4 (v5 + 1) u1 else gd (inb v5 8) (gd (inb v5 8) (oB (fX8_lets v1 (gI u1 v1 4) v2 (gA u1 16 v5) (gA u1 17 v5) u1) fun r2 u2 => (if r2 = 0 then fX8_through_6 v1 v2 v3 n v4 (v5 + 1) u2 else fX8_through_6 v1 v2 v3 n (v4 ||| (1 <<< (v5 &&& 31))) (v5 + 1) u2)))))
set_option maxRecDepth 20000 in
theorem sX8_through_6 (v1 : Nat) (v2 : Int32) (v3 : Int32) (h1 : isMom v1 = true) : ∀ (n : Nat) (v4 : Int32) (v5 : Int32) (u : US), Sim tI mX8_through 4 (fX8_through_6 v1 v2 v3 n v4 v5 u) 6 [some (.ref 3), some (.ref v1), some (.int v2), some (.int v3), some (.int v4), some (.int v5)] [] u := by
  intro n
  induction n with
  | zero =>
    intro v4 v5 u
    rw [fX8_through_6.eq_1]
    exact r_none
  | succ n ih =>
    intro v4 v5 u
    rw [fX8_through_6.eq_2]
    refine r_iload dX8_through_6 rfl ?_
    refine r_aload_n dX8_through_8 rfl ?_
    refine r_get 3 2 flX8_44 rfl (v := .int (gI u 3 2)) rfl dX8_through_9 ?_
    refine r_icmp_ge dX8_through_12 (tgt := 66) rfl ?_ ?_
    · refine r_iload dX8_through_66 rfl ?_
      exact r_ireturn rfl dX8_through_68
    · refine r_iload_n dX8_through_15 rfl ?_
      refine r_iload dX8_through_16 rfl ?_
      refine c_NI (As := [.int v3, .int v5]) knX8_146 (by decide) (okX11_has v3 v5 u) rfl (Nat.le_of_ble_eq_true rfl) rfl dX8_through_18 (fun r1 u1 => ?_)
      refine r_if_eq dX8_through_21 (tgt := 60) rfl ?_ ?_
      · refine r_iinc dX8_through_60 (Nat.le_of_ble_eq_true rfl) rfl (v := v5 + 1) rfl (ls2 := [some (.ref 3), some (.ref v1), some (.int v2), some (.int v3), some (.int v4), some (.int (v5 + 1))]) rfl ?_
        refine r_goto dX8_through_63 (tgt := 6) rfl ?_
        exact ih v4 (v5 + 1) u1
      · refine r_aload_n dX8_through_24 rfl ?_
        refine r_aload_n dX8_through_25 rfl ?_
        refine r_aload_n dX8_through_26 rfl ?_
        refine r_get v1 4 flX8_118 (okO_mom h1) (v := .int (gI u1 v1 4)) (slA_i (okO_mom h1) rfl) dX8_through_27 ?_
        refine r_iload_n dX8_through_30 rfl ?_
        refine r_aload_n dX8_through_31 rfl ?_
        refine r_get 3 5 flX8_18 rfl (v := .ref 16) rfl dX8_through_32 ?_
        refine r_iload dX8_through_35 rfl ?_
        refine r_iald 16 rfl dX8_through_37 ?_
        refine r_aload_n dX8_through_38 rfl ?_
        refine r_get 3 6 flX8_22 rfl (v := .ref 17) rfl dX8_through_39 ?_
        refine r_iload dX8_through_42 rfl ?_
        refine r_iald 17 rfl dX8_through_44 ?_
        refine c_VI (As := [.ref v1, .int (gI u1 v1 4), .int v2, .int (gA u1 16 v5), .int (gA u1 17 v5)]) kvX8_149 rfl (by decide) (okX8_lets v1 (gI u1 v1 4) v2 (gA u1 16 v5) (gA u1 17 v5) u1) rfl (Nat.le_of_ble_eq_true rfl) rfl dX8_through_45 (fun r2 u2 => ?_)
        refine r_if_eq dX8_through_48 (tgt := 60) rfl ?_ ?_
        · refine r_iinc dX8_through_60 (Nat.le_of_ble_eq_true rfl) rfl (v := v5 + 1) rfl (ls2 := [some (.ref 3), some (.ref v1), some (.int v2), some (.int v3), some (.int v4), some (.int (v5 + 1))]) rfl ?_
          refine r_goto dX8_through_63 (tgt := 6) rfl ?_
          exact ih v4 (v5 + 1) u2
        · refine r_iload dX8_through_51 rfl ?_
          refine r_iconst dX8_through_53 (v := 1) rfl ?_
          refine r_iload dX8_through_54 rfl ?_
          refine r_ishl dX8_through_56 ?_
          refine r_ior dX8_through_57 ?_
          refine r_istore dX8_through_58 (Nat.le_of_ble_eq_true rfl) (ls2 := [some (.ref 3), some (.ref v1), some (.int v2), some (.int v3), some (.int (v4 ||| (1 <<< (v5 &&& 31)))), some (.int v5)]) rfl ?_
          refine r_iinc dX8_through_60 (Nat.le_of_ble_eq_true rfl) rfl (v := v5 + 1) rfl (ls2 := [some (.ref 3), some (.ref v1), some (.int v2), some (.int v3), some (.int (v4 ||| (1 <<< (v5 &&& 31)))), some (.int (v5 + 1))]) rfl ?_
          refine r_goto dX8_through_63 (tgt := 6) rfl ?_
          exact ih (v4 ||| (1 <<< (v5 &&& 31))) (v5 + 1) u2
def fX8_through (v1 : Nat) (v2 : Int32) (v3 : Int32) (u : US) : Option (Int32 × US) :=
  gd (isMom v1) (fX8_through_6 v1 v2 v3 FU 0 0 u)
set_option maxRecDepth 20000 in
theorem sX8_through (v1 : Nat) (v2 : Int32) (v3 : Int32) (u : US) : Sim tI mX8_through 4 (fX8_through v1 v2 v3 u) 0 [some (.ref 3), some (.ref v1), some (.int v2), some (.int v3), none, none] [] u := by
  unfold fX8_through
  refine r_gd (fun h1 => ?_)
  refine r_iconst dX8_through_0 (v := 0) rfl ?_
  refine r_istore dX8_through_1 (Nat.le_of_ble_eq_true rfl) (ls2 := [some (.ref 3), some (.ref v1), some (.int v2), some (.int v3), some (.int 0), none]) rfl ?_
  refine r_iconst dX8_through_3 (v := 0) rfl ?_
  refine r_istore dX8_through_4 (Nat.le_of_ble_eq_true rfl) (ls2 := [some (.ref 3), some (.ref v1), some (.int v2), some (.int v3), some (.int 0), some (.int 0)]) rfl ?_
  exact sX8_through_6 v1 v2 v3 h1 FU 0 0 u
theorem okX8_through (v1 : Nat) (v2 : Int32) (v3 : Int32) (u : US) : ∀ r, fX8_through v1 v2 v3 u = some r → MetC mX8_through 4 [.ref 3, .ref v1, .int v2, .int v3] u (tI r) :=
  met_of (by decide +kernel) (Nat.le_of_ble_eq_true rfl) rfl (sX8_through v1 v2 v3 u)
def fX11_partByPanes_22 (v1 : Int32) : Nat → Int32 → Int32 → US → Option (US)
  | 0, _, _, _ => none
  | n + 1, v2, v3, u => (if (gI u 3 3) ≤ v3 then some u else oB (fX8_through 4 v3 v2 u) fun r1 u1 => oV (fX3_add r1 u1) fun u2 => fX11_partByPanes_22 v1 n v2 (v3 + 1) u2)
set_option maxRecDepth 20000 in
theorem sX11_partByPanes_22 (v1 : Int32) : ∀ (n : Nat) (v2 : Int32) (v3 : Int32) (u : US), Sim tV mX11_partByPanes 7 (fX11_partByPanes_22 v1 n v2 v3 u) 22 [some (.ref 0), some (.int v1), some (.int v2), some (.int v3)] [] u := by
  intro n
  induction n with
  | zero =>
    intro v2 v3 u
    rw [fX11_partByPanes_22.eq_1]
    exact r_none
  | succ n ih =>
    intro v2 v3 u
    rw [fX11_partByPanes_22.eq_2]
    refine r_iload_n dX11_partByPanes_22 rfl ?_
    refine r_aload_n dX11_partByPanes_23 rfl ?_
    refine r_get 0 2 flX11_28 rfl (v := .ref 3) rfl dX11_partByPanes_24 ?_
    refine r_get 3 3 flX11_357 rfl (v := .int (gI u 3 3)) rfl dX11_partByPanes_27 ?_
    refine r_icmp_ge dX11_partByPanes_30 (tgt := 59) rfl ?_ ?_
    · exact r_return rfl dX11_partByPanes_59
    · refine r_aload_n dX11_partByPanes_33 rfl ?_
      refine r_get 0 8 flX11_62 rfl (v := .ref 9) rfl dX11_partByPanes_34 ?_
      refine r_aload_n dX11_partByPanes_37 rfl ?_
      refine r_get 0 2 flX11_28 rfl (v := .ref 3) rfl dX11_partByPanes_38 ?_
      refine r_aload_n dX11_partByPanes_41 rfl ?_
      refine r_get 0 3 flX11_35 rfl (v := .ref 4) rfl dX11_partByPanes_42 ?_
      refine r_iload_n dX11_partByPanes_45 rfl ?_
      refine r_iload_n dX11_partByPanes_46 rfl ?_
      refine c_VI (As := [.ref 4, .int v3, .int v2]) kvX11_205 rfl (by decide) (okX8_through 4 v3 v2 u) rfl (Nat.le_of_ble_eq_true rfl) rfl dX11_partByPanes_47 (fun r1 u1 => ?_)
      refine c_VV (As := [.int r1]) kvX11_346 rfl (by decide) (okX3_add r1 u1) rfl (Nat.le_of_ble_eq_true rfl) rfl dX11_partByPanes_50 (fun u2 => ?_)
      refine r_iinc dX11_partByPanes_53 (Nat.le_of_ble_eq_true rfl) rfl (v := v3 + 1) rfl (ls2 := [some (.ref 0), some (.int v1), some (.int v2), some (.int (v3 + 1))]) rfl ?_
      refine r_goto dX11_partByPanes_56 (tgt := 22) rfl ?_
      exact ih v2 (v3 + 1) u2
def fX11_partByPanes (v1 : Int32) (u : US) : Option (US) :=
  oB (fX8_near 4 v1 u) fun r1 u1 => oV (fX3_clear u1) fun u2 => fX11_partByPanes_22 v1 FU r1 0 u2
set_option maxRecDepth 20000 in
theorem sX11_partByPanes (v1 : Int32) (u : US) : Sim tV mX11_partByPanes 7 (fX11_partByPanes v1 u) 0 [some (.ref 0), some (.int v1), none, none] [] u := by
  unfold fX11_partByPanes
  refine r_aload_n dX11_partByPanes_0 rfl ?_
  refine r_get 0 2 flX11_28 rfl (v := .ref 3) rfl dX11_partByPanes_1 ?_
  refine r_aload_n dX11_partByPanes_4 rfl ?_
  refine r_get 0 3 flX11_35 rfl (v := .ref 4) rfl dX11_partByPanes_5 ?_
  refine r_iload_n dX11_partByPanes_8 rfl ?_
  refine c_VI (As := [.ref 4, .int v1]) kvX11_224 rfl (by decide) (okX8_near 4 v1 u) rfl (Nat.le_of_ble_eq_true rfl) rfl dX11_partByPanes_9 (fun r1 u1 => ?_)
  refine r_istore_n dX11_partByPanes_12 (Nat.le_of_ble_eq_true rfl) (ls2 := [some (.ref 0), some (.int v1), some (.int r1), none]) rfl ?_
  refine r_aload_n dX11_partByPanes_13 rfl ?_
  refine r_get 0 8 flX11_62 rfl (v := .ref 9) rfl dX11_partByPanes_14 ?_
  refine c_VV (As := []) kvX11_345 rfl (by decide) (okX3_clear u1) rfl (Nat.le_of_ble_eq_true rfl) rfl dX11_partByPanes_17 (fun u2 => ?_)
  refine r_iconst dX11_partByPanes_20 (v := 0) rfl ?_
  refine r_istore_n dX11_partByPanes_21 (Nat.le_of_ble_eq_true rfl) (ls2 := [some (.ref 0), some (.int v1), some (.int r1), some (.int 0)]) rfl ?_
  exact sX11_partByPanes_22 v1 FU r1 0 u2
theorem okX11_partByPanes (v1 : Int32) (u : US) : ∀ r, fX11_partByPanes v1 u = some r → MetC mX11_partByPanes 7 [.ref 0, .int v1] u (tV r) :=
  met_of (by decide +kernel) (Nat.le_of_ble_eq_true rfl) rfl (sX11_partByPanes v1 u)
def fX2_tellOne (v1 : Int64) (u : US) : Option (US) :=
  oV (fX2_clear u) fun u1 => oV (fX2_add v1 u1) fun u2 => some u2
set_option maxRecDepth 20000 in
theorem sX2_tellOne (v1 : Int64) (u : US) : Sim tV mX2_tellOne 1 (fX2_tellOne v1 u) 0 [some (.ref 8), some (.long v1), none] [] u := by
  unfold fX2_tellOne
  refine r_aload_n dX2_tellOne_0 rfl ?_
  refine c_VV (As := []) kvX2_19 rfl (by decide) (okX2_clear u) rfl (Nat.le_of_ble_eq_true rfl) rfl dX2_tellOne_1 (fun u1 => ?_)
  refine r_aload_n dX2_tellOne_4 rfl ?_
  refine r_lload_n dX2_tellOne_5 rfl ?_
  refine c_VV (As := [.long v1]) kvX2_22 rfl (by decide) (okX2_add v1 u1) rfl (Nat.le_of_ble_eq_true rfl) rfl dX2_tellOne_6 (fun u2 => ?_)
  exact r_return rfl dX2_tellOne_9
theorem okX2_tellOne (v1 : Int64) (u : US) : ∀ r, fX2_tellOne v1 u = some r → MetC mX2_tellOne 1 [.ref 8, .long v1] u (tV r) :=
  met_of (by decide +kernel) (Nat.le_of_ble_eq_true rfl) rfl (sX2_tellOne v1 u)
def fX3_union_4 (v1 : Int32) : Nat → Int32 → Int32 → US → Option (Int32 × US)
  | 0, _, _, _ => none
  | n + 1, v2, v3, u => (if (gI u 9 1) ≤ v3 then some (v2, u) else oB (fX11_has v1 v3 u) fun r1 u1 => (if r1 = 0 then fX3_union_4 v1 n v2 (v3 + 1) u1 else gd (inb v3 8) (fX3_union_4 v1 n (v2 ||| (gA u1 34 v3)) (v3 + 1) u1)))
set_option maxRecDepth 20000 in
theorem sX3_union_4 (v1 : Int32) : ∀ (n : Nat) (v2 : Int32) (v3 : Int32) (u : US), Sim tI mX3_union 1 (fX3_union_4 v1 n v2 v3 u) 4 [some (.ref 9), some (.int v1), some (.int v2), some (.int v3)] [] u := by
  intro n
  induction n with
  | zero =>
    intro v2 v3 u
    rw [fX3_union_4.eq_1]
    exact r_none
  | succ n ih =>
    intro v2 v3 u
    rw [fX3_union_4.eq_2]
    refine r_iload_n dX3_union_4 rfl ?_
    refine r_aload_n dX3_union_5 rfl ?_
    refine r_get 9 1 flX3_15 rfl (v := .int (gI u 9 1)) rfl dX3_union_6 ?_
    refine r_icmp_ge dX3_union_9 (tgt := 35) rfl ?_ ?_
    · refine r_iload_n dX3_union_35 rfl ?_
      exact r_ireturn rfl dX3_union_36
    · refine r_iload_n dX3_union_12 rfl ?_
      refine r_iload_n dX3_union_13 rfl ?_
      refine c_NI (As := [.int v1, .int v3]) knX3_19 (by decide) (okX11_has v1 v3 u) rfl (Nat.le_of_ble_eq_true rfl) rfl dX3_union_14 (fun r1 u1 => ?_)
      refine r_if_eq dX3_union_17 (tgt := 29) rfl ?_ ?_
      · refine r_iinc dX3_union_29 (Nat.le_of_ble_eq_true rfl) rfl (v := v3 + 1) rfl (ls2 := [some (.ref 9), some (.int v1), some (.int v2), some (.int (v3 + 1))]) rfl ?_
        refine r_goto dX3_union_32 (tgt := 4) rfl ?_
        exact ih v2 (v3 + 1) u1
      · refine r_iload_n dX3_union_20 rfl ?_
        refine r_aload_n dX3_union_21 rfl ?_
        refine r_get 9 0 flX3_9 rfl (v := .ref 34) rfl dX3_union_22 ?_
        refine r_iload_n dX3_union_25 rfl ?_
        refine r_iald 34 rfl dX3_union_26 ?_
        refine r_ior dX3_union_27 ?_
        refine r_istore_n dX3_union_28 (Nat.le_of_ble_eq_true rfl) (ls2 := [some (.ref 9), some (.int v1), some (.int (v2 ||| (gA u1 34 v3))), some (.int v3)]) rfl ?_
        refine r_iinc dX3_union_29 (Nat.le_of_ble_eq_true rfl) rfl (v := v3 + 1) rfl (ls2 := [some (.ref 9), some (.int v1), some (.int (v2 ||| (gA u1 34 v3))), some (.int (v3 + 1))]) rfl ?_
        refine r_goto dX3_union_32 (tgt := 4) rfl ?_
        exact ih (v2 ||| (gA u1 34 v3)) (v3 + 1) u1
def fX3_union (v1 : Int32) (u : US) : Option (Int32 × US) :=
  fX3_union_4 v1 FU 0 0 u
set_option maxRecDepth 20000 in
theorem sX3_union (v1 : Int32) (u : US) : Sim tI mX3_union 1 (fX3_union v1 u) 0 [some (.ref 9), some (.int v1), none, none] [] u := by
  unfold fX3_union
  refine r_iconst dX3_union_0 (v := 0) rfl ?_
  refine r_istore_n dX3_union_1 (Nat.le_of_ble_eq_true rfl) (ls2 := [some (.ref 9), some (.int v1), some (.int 0), none]) rfl ?_
  refine r_iconst dX3_union_2 (v := 0) rfl ?_
  refine r_istore_n dX3_union_3 (Nat.le_of_ble_eq_true rfl) (ls2 := [some (.ref 9), some (.int v1), some (.int 0), some (.int 0)]) rfl ?_
  exact sX3_union_4 v1 FU 0 0 u
theorem okX3_union (v1 : Int32) (u : US) : ∀ r, fX3_union v1 u = some r → MetC mX3_union 1 [.ref 9, .int v1] u (tI r) :=
  met_of (by decide +kernel) (Nat.le_of_ble_eq_true rfl) rfl (sX3_union v1 u)
def fX8_isPane (v1 : Int32) (u : US) : Option (Int32 × US) :=
  (if v1 < 0 then some (0, u) else (if (gI u 3 3) ≤ v1 then some (0, u) else some (1, u)))
set_option maxRecDepth 20000 in
theorem sX8_isPane (v1 : Int32) (u : US) : Sim tI mX8_isPane 0 (fX8_isPane v1 u) 0 [some (.ref 3), some (.int v1)] [] u := by
  unfold fX8_isPane
  refine r_iload_n dX8_isPane_0 rfl ?_
  refine r_if_lt dX8_isPane_1 (tgt := 16) rfl ?_ ?_
  · refine r_iconst dX8_isPane_16 (v := 0) rfl ?_
    exact r_zreturn0 rfl dX8_isPane_17
  · refine r_iload_n dX8_isPane_4 rfl ?_
    refine r_aload_n dX8_isPane_5 rfl ?_
    refine r_get 3 3 flX8_47 rfl (v := .int (gI u 3 3)) rfl dX8_isPane_6 ?_
    refine r_icmp_ge dX8_isPane_9 (tgt := 16) rfl ?_ ?_
    · refine r_iconst dX8_isPane_16 (v := 0) rfl ?_
      exact r_zreturn0 rfl dX8_isPane_17
    · refine r_iconst dX8_isPane_12 (v := 1) rfl ?_
      refine r_goto dX8_isPane_13 (tgt := 17) rfl ?_
      exact r_zreturn1 rfl dX8_isPane_17
theorem okX8_isPane (v1 : Int32) (u : US) : ∀ r, fX8_isPane v1 u = some r → MetC mX8_isPane 0 [.ref 3, .int v1] u (tI r) :=
  met_of (by decide +kernel) (Nat.le_of_ble_eq_true rfl) rfl (sX8_isPane v1 u)
def fX8_panesIn_5 (v1 : Nat) (v2 : Int32) : Nat → Int32 → Int32 → US → Option (Int32 × US)
  | 0, _, _, _ => none
  | n + 1, v3, v4, u => (if (gI u 3 3) ≤ v4 then some (v3, u) else gd (inb v4 (ln (fpt v1 2))) ((if (gA u (fpt v1 2) v4) = v2 then fX8_panesIn_5 v1 v2 n (v3 ||| (1 <<< (v4 &&& 31))) (v4 + 1) u else fX8_panesIn_5 v1 v2 n v3 (v4 + 1) u)))
set_option maxRecDepth 20000 in
theorem sX8_panesIn_5 (v1 : Nat) (v2 : Int32) (h1 : isMom v1 = true) : ∀ (n : Nat) (v3 : Int32) (v4 : Int32) (u : US), Sim tI mX8_panesIn 0 (fX8_panesIn_5 v1 v2 n v3 v4 u) 5 [some (.ref 3), some (.ref v1), some (.int v2), some (.int v3), some (.int v4)] [] u := by
  intro n
  induction n with
  | zero =>
    intro v3 v4 u
    rw [fX8_panesIn_5.eq_1]
    exact r_none
  | succ n ih =>
    intro v3 v4 u
    rw [fX8_panesIn_5.eq_2]
    refine r_iload dX8_panesIn_5 rfl ?_
    refine r_aload_n dX8_panesIn_7 rfl ?_
    refine r_get 3 3 flX8_47 rfl (v := .int (gI u 3 3)) rfl dX8_panesIn_8 ?_
    refine r_icmp_ge dX8_panesIn_11 (tgt := 38) rfl ?_ ?_
    · refine r_iload_n dX8_panesIn_38 rfl ?_
      exact r_ireturn rfl dX8_panesIn_39
    · refine r_aload_n dX8_panesIn_14 rfl ?_
      refine r_get v1 2 flX8_106 (okO_mom h1) (v := .ref (fpt v1 2)) (slA_r (okO_mom h1) rfl rfl) dX8_panesIn_15 ?_
      refine r_iload dX8_panesIn_18 rfl ?_
      refine r_iald (fpt v1 2) (okA_mom h1 2 rfl) dX8_panesIn_20 ?_
      refine r_iload_n dX8_panesIn_21 rfl ?_
      refine r_icmp_ne dX8_panesIn_22 (tgt := 32) rfl ?_ ?_
      · refine r_iinc dX8_panesIn_32 (Nat.le_of_ble_eq_true rfl) rfl (v := v4 + 1) rfl (ls2 := [some (.ref 3), some (.ref v1), some (.int v2), some (.int v3), some (.int (v4 + 1))]) rfl ?_
        refine r_goto dX8_panesIn_35 (tgt := 5) rfl ?_
        exact ih v3 (v4 + 1) u
      · refine r_iload_n dX8_panesIn_25 rfl ?_
        refine r_iconst dX8_panesIn_26 (v := 1) rfl ?_
        refine r_iload dX8_panesIn_27 rfl ?_
        refine r_ishl dX8_panesIn_29 ?_
        refine r_ior dX8_panesIn_30 ?_
        refine r_istore_n dX8_panesIn_31 (Nat.le_of_ble_eq_true rfl) (ls2 := [some (.ref 3), some (.ref v1), some (.int v2), some (.int (v3 ||| (1 <<< (v4 &&& 31)))), some (.int v4)]) rfl ?_
        refine r_iinc dX8_panesIn_32 (Nat.le_of_ble_eq_true rfl) rfl (v := v4 + 1) rfl (ls2 := [some (.ref 3), some (.ref v1), some (.int v2), some (.int (v3 ||| (1 <<< (v4 &&& 31)))), some (.int (v4 + 1))]) rfl ?_
        refine r_goto dX8_panesIn_35 (tgt := 5) rfl ?_
        exact ih (v3 ||| (1 <<< (v4 &&& 31))) (v4 + 1) u
def fX8_panesIn (v1 : Nat) (v2 : Int32) (u : US) : Option (Int32 × US) :=
  gd (isMom v1) (fX8_panesIn_5 v1 v2 FU 0 0 u)
set_option maxRecDepth 20000 in
theorem sX8_panesIn (v1 : Nat) (v2 : Int32) (u : US) : Sim tI mX8_panesIn 0 (fX8_panesIn v1 v2 u) 0 [some (.ref 3), some (.ref v1), some (.int v2), none, none] [] u := by
  unfold fX8_panesIn
  refine r_gd (fun h1 => ?_)
  refine r_iconst dX8_panesIn_0 (v := 0) rfl ?_
  refine r_istore_n dX8_panesIn_1 (Nat.le_of_ble_eq_true rfl) (ls2 := [some (.ref 3), some (.ref v1), some (.int v2), some (.int 0), none]) rfl ?_
  refine r_iconst dX8_panesIn_2 (v := 0) rfl ?_
  refine r_istore dX8_panesIn_3 (Nat.le_of_ble_eq_true rfl) (ls2 := [some (.ref 3), some (.ref v1), some (.int v2), some (.int 0), some (.int 0)]) rfl ?_
  exact sX8_panesIn_5 v1 v2 h1 FU 0 0 u
theorem okX8_panesIn (v1 : Nat) (v2 : Int32) (u : US) : ∀ r, fX8_panesIn v1 v2 u = some r → MetC mX8_panesIn 0 [.ref 3, .ref v1, .int v2] u (tI r) :=
  met_of (by decide +kernel) (Nat.le_of_ble_eq_true rfl) rfl (sX8_panesIn v1 v2 u)
def fX11_adds_95 (v1 : Int32) (k73 : Int32 → Int32 → Int32 → Int32 → US → Option (Int32 × US)) (v3 : Int32) (v4 : Int32) (v5 : Int32) (v6 : Int32) (s0 : Int32) (u : US) : Option (Int32 × US) :=
  (if s0 = 0 then k73 v3 v4 v5 (v6 + 1) u else oB (fX3_union v6 u) fun r1 u1 => (if (v3 &&& (r1 ^^^ (-1))) = 0 then k73 v3 v4 v5 (v6 + 1) u1 else k73 v3 v4 (v5 + 1) (v6 + 1) u1))
set_option maxRecDepth 20000 in
theorem sX11_adds_95 (v1 : Int32) (k73 : Int32 → Int32 → Int32 → Int32 → US → Option (Int32 × US)) (hk73 : ∀ (v3 : Int32) (v4 : Int32) (v5 : Int32) (v6 : Int32) (u : US), Sim tI mX11_adds 8 (k73 v3 v4 v5 v6 u) 73 [some (.ref 0), some (.int v1), none, some (.int v3), some (.int v4), some (.int v5), some (.int v6), none] [] u) (v3 : Int32) (v4 : Int32) (v5 : Int32) (v6 : Int32) (s0 : Int32) (u : US) : Sim tI mX11_adds 8 (fX11_adds_95 v1 k73 v3 v4 v5 v6 s0 u) 95 [some (.ref 0), some (.int v1), none, some (.int v3), some (.int v4), some (.int v5), some (.int v6), none] [.int s0] u := by
  unfold fX11_adds_95
  refine r_istore dX11_adds_95 (Nat.le_of_ble_eq_true rfl) (ls2 := [some (.ref 0), some (.int v1), none, some (.int v3), some (.int v4), some (.int v5), some (.int v6), some (.int s0)]) rfl ?_
  refine r_iload dX11_adds_97 rfl ?_
  refine r_if_eq dX11_adds_99 (tgt := 121) rfl ?_ ?_
  · refine r_iinc dX11_adds_121 (Nat.le_of_ble_eq_true rfl) rfl (v := v6 + 1) rfl (ls2 := [some (.ref 0), some (.int v1), none, some (.int v3), some (.int v4), some (.int v5), some (.int (v6 + 1)), some (.int s0)]) rfl ?_
    refine r_goto dX11_adds_124 (tgt := 73) rfl ?_
    refine r_mk [true, true, false, true, true, true, true, false] (ls2 := [some (.ref 0), some (.int v1), none, some (.int v3), some (.int v4), some (.int v5), some (.int (v6 + 1)), none]) rfl ?_
    exact hk73 v3 v4 v5 (v6 + 1) u
  · refine r_iload_n dX11_adds_102 rfl ?_
    refine r_aload_n dX11_adds_103 rfl ?_
    refine r_get 0 8 flX11_62 rfl (v := .ref 9) rfl dX11_adds_104 ?_
    refine r_iload dX11_adds_107 rfl ?_
    refine c_VI (As := [.int v6]) kvX11_360 rfl (by decide) (okX3_union v6 u) rfl (Nat.le_of_ble_eq_true rfl) rfl dX11_adds_109 (fun r1 u1 => ?_)
    refine r_iconst dX11_adds_112 (v := -1) rfl ?_
    refine r_ixor dX11_adds_113 ?_
    refine r_iand dX11_adds_114 ?_
    refine r_if_eq dX11_adds_115 (tgt := 121) rfl ?_ ?_
    · refine r_iinc dX11_adds_121 (Nat.le_of_ble_eq_true rfl) rfl (v := v6 + 1) rfl (ls2 := [some (.ref 0), some (.int v1), none, some (.int v3), some (.int v4), some (.int v5), some (.int (v6 + 1)), some (.int s0)]) rfl ?_
      refine r_goto dX11_adds_124 (tgt := 73) rfl ?_
      refine r_mk [true, true, false, true, true, true, true, false] (ls2 := [some (.ref 0), some (.int v1), none, some (.int v3), some (.int v4), some (.int v5), some (.int (v6 + 1)), none]) rfl ?_
      exact hk73 v3 v4 v5 (v6 + 1) u1
    · refine r_iinc dX11_adds_118 (Nat.le_of_ble_eq_true rfl) rfl (v := v5 + 1) rfl (ls2 := [some (.ref 0), some (.int v1), none, some (.int v3), some (.int v4), some (.int (v5 + 1)), some (.int v6), some (.int s0)]) rfl ?_
      refine r_iinc dX11_adds_121 (Nat.le_of_ble_eq_true rfl) rfl (v := v6 + 1) rfl (ls2 := [some (.ref 0), some (.int v1), none, some (.int v3), some (.int v4), some (.int (v5 + 1)), some (.int (v6 + 1)), some (.int s0)]) rfl ?_
      refine r_goto dX11_adds_124 (tgt := 73) rfl ?_
      refine r_mk [true, true, false, true, true, true, true, false] (ls2 := [some (.ref 0), some (.int v1), none, some (.int v3), some (.int v4), some (.int (v5 + 1)), some (.int (v6 + 1)), none]) rfl ?_
      exact hk73 v3 v4 (v5 + 1) (v6 + 1) u1
def fX11_adds_73 (v1 : Int32) : Nat → Int32 → Int32 → Int32 → Int32 → US → Option (Int32 × US)
  | 0, _, _, _, _, _ => none
  | n + 1, v3, v4, v5, v6, u => (if v4 < v6 then oB (fJ6_bitCount_0f7a4 v4 u) fun r1 u1 => oV (fX2_tellOne ((1 <<< (r1 &&& 31) : Int32).toInt64) u1) fun u2 => some (v5, u2) else (if (v6 &&& (v4 ^^^ (-1))) = 0 then fX11_adds_95 v1 (fX11_adds_73 v1 n) v3 v4 v5 v6 1 u else fX11_adds_95 v1 (fX11_adds_73 v1 n) v3 v4 v5 v6 0 u))
set_option maxRecDepth 20000 in
theorem sX11_adds_73 (v1 : Int32) : ∀ (n : Nat) (v3 : Int32) (v4 : Int32) (v5 : Int32) (v6 : Int32) (u : US), Sim tI mX11_adds 8 (fX11_adds_73 v1 n v3 v4 v5 v6 u) 73 [some (.ref 0), some (.int v1), none, some (.int v3), some (.int v4), some (.int v5), some (.int v6), none] [] u := by
  intro n
  induction n with
  | zero =>
    intro v3 v4 v5 v6 u
    rw [fX11_adds_73.eq_1]
    exact r_none
  | succ n ih =>
    intro v3 v4 v5 v6 u
    rw [fX11_adds_73.eq_2]
    refine r_iload dX11_adds_73 rfl ?_
    refine r_iload dX11_adds_75 rfl ?_
    refine r_icmp_gt dX11_adds_77 (tgt := 127) rfl ?_ ?_
    · refine r_aload_n dX11_adds_127 rfl ?_
      refine r_get 0 7 flX11_55 rfl (v := .ref 8) rfl dX11_adds_128 ?_
      refine r_iconst dX11_adds_131 (v := 1) rfl ?_
      refine r_iload dX11_adds_132 rfl ?_
      refine c_SI (As := [.int v4]) ksX11_254 (by decide) (okJ6_bitCount_0f7a4 v4 u) rfl (Nat.le_of_ble_eq_true rfl) rfl dX11_adds_134 (fun r1 u1 => ?_)
      refine r_ishl dX11_adds_137 ?_
      refine r_i2l dX11_adds_138 ?_
      refine c_VV (As := [.long ((1 <<< (r1 &&& 31) : Int32).toInt64)]) kvX11_330 rfl (by decide) (okX2_tellOne ((1 <<< (r1 &&& 31) : Int32).toInt64) u1) rfl (Nat.le_of_ble_eq_true rfl) rfl dX11_adds_139 (fun u2 => ?_)
      refine r_iload dX11_adds_142 rfl ?_
      exact r_ireturn rfl dX11_adds_144
    · refine r_iload dX11_adds_80 rfl ?_
      refine r_iload dX11_adds_82 rfl ?_
      refine r_iconst dX11_adds_84 (v := -1) rfl ?_
      refine r_ixor dX11_adds_85 ?_
      refine r_iand dX11_adds_86 ?_
      refine r_if_ne dX11_adds_87 (tgt := 94) rfl ?_ ?_
      · refine r_iconst dX11_adds_94 (v := 0) rfl ?_
        exact sX11_adds_95 v1 (fX11_adds_73 v1 n) ih v3 v4 v5 v6 0 u
      · refine r_iconst dX11_adds_90 (v := 1) rfl ?_
        refine r_goto dX11_adds_91 (tgt := 95) rfl ?_
        exact sX11_adds_95 v1 (fX11_adds_73 v1 n) ih v3 v4 v5 v6 1 u
def fX11_adds (v1 : Int32) (u : US) : Option (Int32 × US) :=
  oB (fX8_isPane v1 u) fun r1 u1 => (if r1 = 0 then some ((-1), u1) else gd (inb v1 8) ((if (gA u1 24 v1) = (-1) then some ((-2), u1) else oV (fX11_partByPanes (gA u1 24 v1) u1) fun u2 => oB (fX3_union (1 <<< (v1 &&& 31)) u2) fun r3 u3 => oB (fX8_panesIn 4 (gA u1 24 v1) u3) fun r4 u4 => fX11_adds_73 v1 FU r3 (r4 &&& ((1 <<< (v1 &&& 31)) ^^^ (-1))) 0 0 u4)))
set_option maxRecDepth 20000 in
theorem sX11_adds (v1 : Int32) (u : US) : Sim tI mX11_adds 8 (fX11_adds v1 u) 0 [some (.ref 0), some (.int v1), none, none, none, none, none, none] [] u := by
  unfold fX11_adds
  refine r_aload_n dX11_adds_0 rfl ?_
  refine r_get 0 2 flX11_28 rfl (v := .ref 3) rfl dX11_adds_1 ?_
  refine r_iload_n dX11_adds_4 rfl ?_
  refine c_VI (As := [.int v1]) kvX11_187 rfl (by decide) (okX8_isPane v1 u) rfl (Nat.le_of_ble_eq_true rfl) rfl dX11_adds_5 (fun r1 u1 => ?_)
  refine r_if_ne dX11_adds_8 (tgt := 13) rfl ?_ ?_
  · refine r_aload_n dX11_adds_13 rfl ?_
    refine r_get 0 3 flX11_35 rfl (v := .ref 4) rfl dX11_adds_14 ?_
    refine r_get 4 2 flX11_196 rfl (v := .ref 24) rfl dX11_adds_17 ?_
    refine r_iload_n dX11_adds_20 rfl ?_
    refine r_iald 24 rfl dX11_adds_21 ?_
    refine r_istore_n dX11_adds_22 (Nat.le_of_ble_eq_true rfl) (ls2 := [some (.ref 0), some (.int v1), some (.int (gA u1 24 v1)), none, none, none, none, none]) rfl ?_
    refine r_iload_n dX11_adds_23 rfl ?_
    refine r_iconst dX11_adds_24 (v := -1) rfl ?_
    refine r_icmp_ne dX11_adds_25 (tgt := 31) rfl ?_ ?_
    · refine r_aload_n dX11_adds_31 rfl ?_
      refine r_iload_n dX11_adds_32 rfl ?_
      refine c_VV (As := [.int (gA u1 24 v1)]) kvX11_354 rfl (by decide) (okX11_partByPanes (gA u1 24 v1) u1) rfl (Nat.le_of_ble_eq_true rfl) rfl dX11_adds_33 (fun u2 => ?_)
      refine r_aload_n dX11_adds_36 rfl ?_
      refine r_get 0 8 flX11_62 rfl (v := .ref 9) rfl dX11_adds_37 ?_
      refine r_iconst dX11_adds_40 (v := 1) rfl ?_
      refine r_iload_n dX11_adds_41 rfl ?_
      refine r_ishl dX11_adds_42 ?_
      refine c_VI (As := [.int (1 <<< (v1 &&& 31))]) kvX11_360 rfl (by decide) (okX3_union (1 <<< (v1 &&& 31)) u2) rfl (Nat.le_of_ble_eq_true rfl) rfl dX11_adds_43 (fun r3 u3 => ?_)
      refine r_istore_n dX11_adds_46 (Nat.le_of_ble_eq_true rfl) (ls2 := [some (.ref 0), some (.int v1), some (.int (gA u1 24 v1)), some (.int r3), none, none, none, none]) rfl ?_
      refine r_aload_n dX11_adds_47 rfl ?_
      refine r_get 0 2 flX11_28 rfl (v := .ref 3) rfl dX11_adds_48 ?_
      refine r_aload_n dX11_adds_51 rfl ?_
      refine r_get 0 3 flX11_35 rfl (v := .ref 4) rfl dX11_adds_52 ?_
      refine r_iload_n dX11_adds_55 rfl ?_
      refine c_VI (As := [.ref 4, .int (gA u1 24 v1)]) kvX11_218 rfl (by decide) (okX8_panesIn 4 (gA u1 24 v1) u3) rfl (Nat.le_of_ble_eq_true rfl) rfl dX11_adds_56 (fun r4 u4 => ?_)
      refine r_iconst dX11_adds_59 (v := 1) rfl ?_
      refine r_iload_n dX11_adds_60 rfl ?_
      refine r_ishl dX11_adds_61 ?_
      refine r_iconst dX11_adds_62 (v := -1) rfl ?_
      refine r_ixor dX11_adds_63 ?_
      refine r_iand dX11_adds_64 ?_
      refine r_istore dX11_adds_65 (Nat.le_of_ble_eq_true rfl) (ls2 := [some (.ref 0), some (.int v1), some (.int (gA u1 24 v1)), some (.int r3), some (.int (r4 &&& ((1 <<< (v1 &&& 31)) ^^^ (-1)))), none, none, none]) rfl ?_
      refine r_iconst dX11_adds_67 (v := 0) rfl ?_
      refine r_istore dX11_adds_68 (Nat.le_of_ble_eq_true rfl) (ls2 := [some (.ref 0), some (.int v1), some (.int (gA u1 24 v1)), some (.int r3), some (.int (r4 &&& ((1 <<< (v1 &&& 31)) ^^^ (-1)))), some (.int 0), none, none]) rfl ?_
      refine r_iconst dX11_adds_70 (v := 0) rfl ?_
      refine r_istore dX11_adds_71 (Nat.le_of_ble_eq_true rfl) (ls2 := [some (.ref 0), some (.int v1), some (.int (gA u1 24 v1)), some (.int r3), some (.int (r4 &&& ((1 <<< (v1 &&& 31)) ^^^ (-1)))), some (.int 0), some (.int 0), none]) rfl ?_
      refine r_mk [true, true, false, true, true, true, true, false] (ls2 := [some (.ref 0), some (.int v1), none, some (.int r3), some (.int (r4 &&& ((1 <<< (v1 &&& 31)) ^^^ (-1)))), some (.int 0), some (.int 0), none]) rfl ?_
      exact sX11_adds_73 v1 FU r3 (r4 &&& ((1 <<< (v1 &&& 31)) ^^^ (-1))) 0 0 u4
    · refine r_bipush dX11_adds_28 (v := -2) rfl ?_
      exact r_ireturn rfl dX11_adds_30
  · refine r_iconst dX11_adds_11 (v := -1) rfl ?_
    exact r_ireturn rfl dX11_adds_12
theorem okX11_adds (v1 : Int32) (u : US) : ∀ r, fX11_adds v1 u = some r → MetC mX11_adds 8 [.ref 0, .int v1] u (tI r) :=
  met_of (by decide +kernel) (Nat.le_of_ble_eq_true rfl) rfl (sX11_adds v1 u)
def fX1_read (v0 : Nat) (v1 : Nat) (v2 : Int32) (u : US) : Option (US) :=
  gd (isMom v0) (gd (okA v1 20) ((if (v2 * 26) < 0 then some u else (if (v2 * 26) ≤ ((Int32.ofNat (ln v1)) - 26) then gd (inr (v2 * 26) 8 (ln v1)) (gd (inr 0 8 (ln (fpt v0 0))) (nx (sF u (fpt v0 0) (va_cpy (u.2.1 v1) (u.2.1 (fpt v0 0)) (v2 * 26 : Int32).toNatClampNeg (0 : Int32).toNatClampNeg (8 : Int32).toNatClampNeg)) fun u1 => gd (inr ((v2 * 26) + 8) 8 (ln v1)) (gd (inr 0 8 (ln (fpt v0 1))) (nx (sF u1 (fpt v0 1) (va_cpy (u1.2.1 v1) (u1.2.1 (fpt v0 1)) ((v2 * 26) + 8 : Int32).toNatClampNeg (0 : Int32).toNatClampNeg (8 : Int32).toNatClampNeg)) fun u2 => gd (inr ((v2 * 26) + 16) 8 (ln v1)) (gd (inr 0 8 (ln (fpt v0 2))) (nx (sF u2 (fpt v0 2) (va_cpy (u2.2.1 v1) (u2.2.1 (fpt v0 2)) ((v2 * 26) + 16 : Int32).toNatClampNeg (0 : Int32).toNatClampNeg (8 : Int32).toNatClampNeg)) fun u3 => gd (inb (((v2 * 26) + 26) - 2) (ln v1)) (nx (sI u3 v0 3 (gA u3 v1 (((v2 * 26) + 26) - 2))) fun u4 => gd (inb (((v2 * 26) + 26) - 1) (ln v1)) (nx (sI u4 v0 4 (gA u4 v1 (((v2 * 26) + 26) - 1))) fun u5 => some u5)))))))) else some u))))
set_option maxRecDepth 20000 in
theorem sX1_read (v0 : Nat) (v1 : Nat) (v2 : Int32) (u : US) : Sim tV mX1_read 5 (fX1_read v0 v1 v2 u) 0 [some (.ref v0), some (.ref v1), some (.int v2), none] [] u := by
  unfold fX1_read
  refine r_gd (fun h0 => ?_)
  refine r_gd (fun h1 => ?_)
  refine r_iload_n dX1_read_0 rfl ?_
  refine r_bipush dX1_read_1 (v := 26) rfl ?_
  refine r_imul dX1_read_3 ?_
  refine r_istore_n dX1_read_4 (Nat.le_of_ble_eq_true rfl) (ls2 := [some (.ref v0), some (.ref v1), some (.int v2), some (.int (v2 * 26))]) rfl ?_
  refine r_iload_n dX1_read_5 rfl ?_
  refine r_if_lt dX1_read_6 (tgt := 18) rfl ?_ ?_
  · exact r_return rfl dX1_read_18
  · refine r_iload_n dX1_read_9 rfl ?_
    refine r_aload_n dX1_read_10 rfl ?_
    refine r_alen v1 h1 dX1_read_11 ?_
    refine r_bipush dX1_read_12 (v := 26) rfl ?_
    refine r_isub dX1_read_14 ?_
    refine r_icmp_le dX1_read_15 (tgt := 19) rfl ?_ ?_
    · refine r_aload_n dX1_read_19 rfl ?_
      refine r_iload_n dX1_read_20 rfl ?_
      refine r_aload_n dX1_read_21 rfl ?_
      refine r_get v0 0 flX1_9 (okO_mom h0) (v := .ref (fpt v0 0)) (slA_r (okO_mom h0) rfl rfl) dX1_read_22 ?_
      refine r_iconst dX1_read_25 (v := 0) rfl ?_
      refine r_bipush dX1_read_26 (v := 8) rfl ?_
      refine r_copy v1 (fpt v0 0) h1 (okA_mom h0 0 rfl) kmX1_32 kwCopy ktCopy knSystem (by decide) (Nat.le_of_ble_eq_true rfl) dX1_read_28 (r_nx (fun u1 => ?_))
      refine r_aload_n dX1_read_31 rfl ?_
      refine r_iload_n dX1_read_32 rfl ?_
      refine r_bipush dX1_read_33 (v := 8) rfl ?_
      refine r_iadd dX1_read_35 ?_
      refine r_aload_n dX1_read_36 rfl ?_
      refine r_get v0 1 flX1_15 (okO_mom h0) (v := .ref (fpt v0 1)) (slA_r (okO_mom h0) rfl rfl) dX1_read_37 ?_
      refine r_iconst dX1_read_40 (v := 0) rfl ?_
      refine r_bipush dX1_read_41 (v := 8) rfl ?_
      refine r_copy v1 (fpt v0 1) h1 (okA_mom h0 1 rfl) kmX1_32 kwCopy ktCopy knSystem (by decide) (Nat.le_of_ble_eq_true rfl) dX1_read_43 (r_nx (fun u2 => ?_))
      refine r_aload_n dX1_read_46 rfl ?_
      refine r_iload_n dX1_read_47 rfl ?_
      refine r_bipush dX1_read_48 (v := 16) rfl ?_
      refine r_iadd dX1_read_50 ?_
      refine r_aload_n dX1_read_51 rfl ?_
      refine r_get v0 2 flX1_18 (okO_mom h0) (v := .ref (fpt v0 2)) (slA_r (okO_mom h0) rfl rfl) dX1_read_52 ?_
      refine r_iconst dX1_read_55 (v := 0) rfl ?_
      refine r_bipush dX1_read_56 (v := 8) rfl ?_
      refine r_copy v1 (fpt v0 2) h1 (okA_mom h0 2 rfl) kmX1_32 kwCopy ktCopy knSystem (by decide) (Nat.le_of_ble_eq_true rfl) dX1_read_58 (r_nx (fun u3 => ?_))
      refine r_aload_n dX1_read_61 rfl ?_
      refine r_aload_n dX1_read_62 rfl ?_
      refine r_iload_n dX1_read_63 rfl ?_
      refine r_bipush dX1_read_64 (v := 26) rfl ?_
      refine r_iadd dX1_read_66 ?_
      refine r_iconst dX1_read_67 (v := 2) rfl ?_
      refine r_isub dX1_read_68 ?_
      refine r_iald v1 h1 dX1_read_69 ?_
      refine r_put v0 3 fpX1_21 (okO_mom h0) rfl dX1_read_70 (r_nx (fun u4 => ?_))
      refine r_aload_n dX1_read_73 rfl ?_
      refine r_aload_n dX1_read_74 rfl ?_
      refine r_iload_n dX1_read_75 rfl ?_
      refine r_bipush dX1_read_76 (v := 26) rfl ?_
      refine r_iadd dX1_read_78 ?_
      refine r_iconst dX1_read_79 (v := 1) rfl ?_
      refine r_isub dX1_read_80 ?_
      refine r_iald v1 h1 dX1_read_81 ?_
      refine r_put v0 4 fpX1_25 (okO_mom h0) rfl dX1_read_82 (r_nx (fun u5 => ?_))
      exact r_return rfl dX1_read_85
    · exact r_return rfl dX1_read_18
theorem okX1_read (v0 : Nat) (v1 : Nat) (v2 : Int32) (u : US) : ∀ r, fX1_read v0 v1 v2 u = some r → MetC mX1_read 5 [.ref v0, .ref v1, .int v2] u (tV r) :=
  met_of (by decide +kernel) (Nat.le_of_ble_eq_true rfl) rfl (sX1_read v0 v1 v2 u)
def fX4_restore (v1 : Int32) (v2 : Nat) (u : US) : Option (Int32 × US) :=
  gd (isMom v2) ((if v1 < 0 then some (0, u) else (if (3 : Int32) ≤ v1 then some (0, u) else oB (fX11_has (gI u 7 2) v1 u) fun r1 u1 => (if r1 = 0 then some (0, u1) else oV (fX1_read v2 32 v1 u1) fun u2 => nx (sI u2 7 3 0) fun u3 => some (1, u3)))))
set_option maxRecDepth 20000 in
theorem sX4_restore (v1 : Int32) (v2 : Nat) (u : US) : Sim tI mX4_restore 6 (fX4_restore v1 v2 u) 0 [some (.ref 7), some (.int v1), some (.ref v2)] [] u := by
  unfold fX4_restore
  refine r_gd (fun h2 => ?_)
  refine r_iload_n dX4_restore_0 rfl ?_
  refine r_if_lt dX4_restore_1 (tgt := 20) rfl ?_ ?_
  · refine r_iconst dX4_restore_20 (v := 0) rfl ?_
    exact r_zreturn0 rfl dX4_restore_21
  · refine r_iload_n dX4_restore_4 rfl ?_
    refine r_iconst dX4_restore_5 (v := 3) rfl ?_
    refine r_icmp_ge dX4_restore_6 (tgt := 20) rfl ?_ ?_
    · refine r_iconst dX4_restore_20 (v := 0) rfl ?_
      exact r_zreturn0 rfl dX4_restore_21
    · refine r_aload_n dX4_restore_9 rfl ?_
      refine r_get 7 2 flX4_24 rfl (v := .int (gI u 7 2)) rfl dX4_restore_10 ?_
      refine r_iload_n dX4_restore_13 rfl ?_
      refine c_NI (As := [.int (gI u 7 2), .int v1]) knX4_40 (by decide) (okX11_has (gI u 7 2) v1 u) rfl (Nat.le_of_ble_eq_true rfl) rfl dX4_restore_14 (fun r1 u1 => ?_)
      refine r_if_ne dX4_restore_17 (tgt := 22) rfl ?_ ?_
      · refine r_aload_n dX4_restore_22 rfl ?_
        refine r_aload_n dX4_restore_23 rfl ?_
        refine r_get 7 1 flX4_17 rfl (v := .ref 32) rfl dX4_restore_24 ?_
        refine r_iload_n dX4_restore_27 rfl ?_
        refine c_VV (As := [.ref 32, .int v1]) kvX4_37 (okO_mom h2) (by decide) (okX1_read v2 32 v1 u1) rfl (Nat.le_of_ble_eq_true rfl) rfl dX4_restore_28 (fun u2 => ?_)
        refine r_aload_n dX4_restore_31 rfl ?_
        refine r_iconst dX4_restore_32 (v := 0) rfl ?_
        refine r_put 7 3 fpX4_20 rfl rfl dX4_restore_33 (r_nx (fun u3 => ?_))
        refine r_iconst dX4_restore_36 (v := 1) rfl ?_
        exact r_zreturn1 rfl dX4_restore_37
      · refine r_iconst dX4_restore_20 (v := 0) rfl ?_
        exact r_zreturn0 rfl dX4_restore_21
theorem okX4_restore (v1 : Int32) (v2 : Nat) (u : US) : ∀ r, fX4_restore v1 v2 u = some r → MetC mX4_restore 6 [.ref 7, .int v1, .ref v2] u (tI r) :=
  met_of (by decide +kernel) (Nat.le_of_ble_eq_true rfl) rfl (sX4_restore v1 v2 u)
def fX11_again (v1 : Int32) (u : US) : Option (Int32 × US) :=
  oB (fX4_restore v1 4 u) fun r1 u1 => gd (isB r1) (some (r1, u1))
set_option maxRecDepth 20000 in
theorem sX11_again (v1 : Int32) (u : US) : Sim tI mX11_again 7 (fX11_again v1 u) 0 [some (.ref 0), some (.int v1)] [] u := by
  unfold fX11_again
  refine r_aload_n dX11_again_0 rfl ?_
  refine r_get 0 6 flX11_48 rfl (v := .ref 7) rfl dX11_again_1 ?_
  refine r_iload_n dX11_again_4 rfl ?_
  refine r_aload_n dX11_again_5 rfl ?_
  refine r_get 0 3 flX11_35 rfl (v := .ref 4) rfl dX11_again_6 ?_
  refine c_VI (As := [.int v1, .ref 4]) kvX11_467 rfl (by decide) (okX4_restore v1 4 u) rfl (Nat.le_of_ble_eq_true rfl) rfl dX11_again_9 (fun r1 u1 => ?_)
  exact r_zreturn rfl dX11_again_12
theorem okX11_again (v1 : Int32) (u : US) : ∀ r, fX11_again v1 u = some r → MetC mX11_again 7 [.ref 0, .int v1] u (tI r) :=
  met_of (by decide +kernel) (Nat.le_of_ble_eq_true rfl) rfl (sX11_again v1 u)
def fX1_copy (v0 : Nat) (v1 : Nat) (u : US) : Option (US) :=
  gd (isMom v0) (gd (isMom v1) (gd (inr 0 8 (ln (fpt v1 0))) (gd (inr 0 8 (ln (fpt v0 0))) (nx (sF u (fpt v0 0) (va_cpy (u.2.1 (fpt v1 0)) (u.2.1 (fpt v0 0)) (0 : Int32).toNatClampNeg (0 : Int32).toNatClampNeg (8 : Int32).toNatClampNeg)) fun u1 => gd (inr 0 8 (ln (fpt v1 1))) (gd (inr 0 8 (ln (fpt v0 1))) (nx (sF u1 (fpt v0 1) (va_cpy (u1.2.1 (fpt v1 1)) (u1.2.1 (fpt v0 1)) (0 : Int32).toNatClampNeg (0 : Int32).toNatClampNeg (8 : Int32).toNatClampNeg)) fun u2 => gd (inr 0 8 (ln (fpt v1 2))) (gd (inr 0 8 (ln (fpt v0 2))) (nx (sF u2 (fpt v0 2) (va_cpy (u2.2.1 (fpt v1 2)) (u2.2.1 (fpt v0 2)) (0 : Int32).toNatClampNeg (0 : Int32).toNatClampNeg (8 : Int32).toNatClampNeg)) fun u3 => nx (sI u3 v0 3 (gI u3 v1 3)) fun u4 => nx (sI u4 v0 4 (gI u4 v1 4)) fun u5 => some u5))))))))
set_option maxRecDepth 20000 in
theorem sX1_copy (v0 : Nat) (v1 : Nat) (u : US) : Sim tV mX1_copy 5 (fX1_copy v0 v1 u) 0 [some (.ref v0), some (.ref v1)] [] u := by
  unfold fX1_copy
  refine r_gd (fun h0 => ?_)
  refine r_gd (fun h1 => ?_)
  refine r_aload_n dX1_copy_0 rfl ?_
  refine r_get v1 0 flX1_9 (okO_mom h1) (v := .ref (fpt v1 0)) (slA_r (okO_mom h1) rfl rfl) dX1_copy_1 ?_
  refine r_iconst dX1_copy_4 (v := 0) rfl ?_
  refine r_aload_n dX1_copy_5 rfl ?_
  refine r_get v0 0 flX1_9 (okO_mom h0) (v := .ref (fpt v0 0)) (slA_r (okO_mom h0) rfl rfl) dX1_copy_6 ?_
  refine r_iconst dX1_copy_9 (v := 0) rfl ?_
  refine r_bipush dX1_copy_10 (v := 8) rfl ?_
  refine r_copy (fpt v1 0) (fpt v0 0) (okA_mom h1 0 rfl) (okA_mom h0 0 rfl) kmX1_32 kwCopy ktCopy knSystem (by decide) (Nat.le_of_ble_eq_true rfl) dX1_copy_12 (r_nx (fun u1 => ?_))
  refine r_aload_n dX1_copy_15 rfl ?_
  refine r_get v1 1 flX1_15 (okO_mom h1) (v := .ref (fpt v1 1)) (slA_r (okO_mom h1) rfl rfl) dX1_copy_16 ?_
  refine r_iconst dX1_copy_19 (v := 0) rfl ?_
  refine r_aload_n dX1_copy_20 rfl ?_
  refine r_get v0 1 flX1_15 (okO_mom h0) (v := .ref (fpt v0 1)) (slA_r (okO_mom h0) rfl rfl) dX1_copy_21 ?_
  refine r_iconst dX1_copy_24 (v := 0) rfl ?_
  refine r_bipush dX1_copy_25 (v := 8) rfl ?_
  refine r_copy (fpt v1 1) (fpt v0 1) (okA_mom h1 1 rfl) (okA_mom h0 1 rfl) kmX1_32 kwCopy ktCopy knSystem (by decide) (Nat.le_of_ble_eq_true rfl) dX1_copy_27 (r_nx (fun u2 => ?_))
  refine r_aload_n dX1_copy_30 rfl ?_
  refine r_get v1 2 flX1_18 (okO_mom h1) (v := .ref (fpt v1 2)) (slA_r (okO_mom h1) rfl rfl) dX1_copy_31 ?_
  refine r_iconst dX1_copy_34 (v := 0) rfl ?_
  refine r_aload_n dX1_copy_35 rfl ?_
  refine r_get v0 2 flX1_18 (okO_mom h0) (v := .ref (fpt v0 2)) (slA_r (okO_mom h0) rfl rfl) dX1_copy_36 ?_
  refine r_iconst dX1_copy_39 (v := 0) rfl ?_
  refine r_bipush dX1_copy_40 (v := 8) rfl ?_
  refine r_copy (fpt v1 2) (fpt v0 2) (okA_mom h1 2 rfl) (okA_mom h0 2 rfl) kmX1_32 kwCopy ktCopy knSystem (by decide) (Nat.le_of_ble_eq_true rfl) dX1_copy_42 (r_nx (fun u3 => ?_))
  refine r_aload_n dX1_copy_45 rfl ?_
  refine r_aload_n dX1_copy_46 rfl ?_
  refine r_get v1 3 flX1_21 (okO_mom h1) (v := .int (gI u3 v1 3)) (slA_i (okO_mom h1) rfl) dX1_copy_47 ?_
  refine r_put v0 3 fpX1_21 (okO_mom h0) rfl dX1_copy_50 (r_nx (fun u4 => ?_))
  refine r_aload_n dX1_copy_53 rfl ?_
  refine r_aload_n dX1_copy_54 rfl ?_
  refine r_get v1 4 flX1_25 (okO_mom h1) (v := .int (gI u4 v1 4)) (slA_i (okO_mom h1) rfl) dX1_copy_55 ?_
  refine r_put v0 4 fpX1_25 (okO_mom h0) rfl dX1_copy_58 (r_nx (fun u5 => ?_))
  exact r_return rfl dX1_copy_61
theorem okX1_copy (v0 : Nat) (v1 : Nat) (u : US) : ∀ r, fX1_copy v0 v1 u = some r → MetC mX1_copy 5 [.ref v0, .ref v1] u (tV r) :=
  met_of (by decide +kernel) (Nat.le_of_ble_eq_true rfl) rfl (sX1_copy v0 v1 u)
def fX2_tellTwo (v1 : Int64) (v3 : Int64) (u : US) : Option (US) :=
  oV (fX2_clear u) fun u1 => oV (fX2_add v1 u1) fun u2 => oV (fX2_add v3 u2) fun u3 => some u3
set_option maxRecDepth 20000 in
theorem sX2_tellTwo (v1 : Int64) (v3 : Int64) (u : US) : Sim tV mX2_tellTwo 1 (fX2_tellTwo v1 v3 u) 0 [some (.ref 8), some (.long v1), none, some (.long v3), none] [] u := by
  unfold fX2_tellTwo
  refine r_aload_n dX2_tellTwo_0 rfl ?_
  refine c_VV (As := []) kvX2_19 rfl (by decide) (okX2_clear u) rfl (Nat.le_of_ble_eq_true rfl) rfl dX2_tellTwo_1 (fun u1 => ?_)
  refine r_aload_n dX2_tellTwo_4 rfl ?_
  refine r_lload_n dX2_tellTwo_5 rfl ?_
  refine c_VV (As := [.long v1]) kvX2_22 rfl (by decide) (okX2_add v1 u1) rfl (Nat.le_of_ble_eq_true rfl) rfl dX2_tellTwo_6 (fun u2 => ?_)
  refine r_aload_n dX2_tellTwo_9 rfl ?_
  refine r_lload_n dX2_tellTwo_10 rfl ?_
  refine c_VV (As := [.long v3]) kvX2_22 rfl (by decide) (okX2_add v3 u2) rfl (Nat.le_of_ble_eq_true rfl) rfl dX2_tellTwo_11 (fun u3 => ?_)
  exact r_return rfl dX2_tellTwo_14
theorem okX2_tellTwo (v1 : Int64) (v3 : Int64) (u : US) : ∀ r, fX2_tellTwo v1 v3 u = some r → MetC mX2_tellTwo 1 [.ref 8, .long v1, .long v3] u (tV r) :=
  met_of (by decide +kernel) (Nat.le_of_ble_eq_true rfl) rfl (sX2_tellTwo v1 v3 u)
def fX8_isRoom (v1 : Int32) (u : US) : Option (Int32 × US) :=
  (if v1 < 0 then some (0, u) else (if (gI u 3 4) ≤ v1 then some (0, u) else some (1, u)))
set_option maxRecDepth 20000 in
theorem sX8_isRoom (v1 : Int32) (u : US) : Sim tI mX8_isRoom 0 (fX8_isRoom v1 u) 0 [some (.ref 3), some (.int v1)] [] u := by
  unfold fX8_isRoom
  refine r_iload_n dX8_isRoom_0 rfl ?_
  refine r_if_lt dX8_isRoom_1 (tgt := 16) rfl ?_ ?_
  · refine r_iconst dX8_isRoom_16 (v := 0) rfl ?_
    exact r_zreturn0 rfl dX8_isRoom_17
  · refine r_iload_n dX8_isRoom_4 rfl ?_
    refine r_aload_n dX8_isRoom_5 rfl ?_
    refine r_get 3 4 flX8_50 rfl (v := .int (gI u 3 4)) rfl dX8_isRoom_6 ?_
    refine r_icmp_ge dX8_isRoom_9 (tgt := 16) rfl ?_ ?_
    · refine r_iconst dX8_isRoom_16 (v := 0) rfl ?_
      exact r_zreturn0 rfl dX8_isRoom_17
    · refine r_iconst dX8_isRoom_12 (v := 1) rfl ?_
      refine r_goto dX8_isRoom_13 (tgt := 17) rfl ?_
      exact r_zreturn1 rfl dX8_isRoom_17
theorem okX8_isRoom (v1 : Int32) (u : US) : ∀ r, fX8_isRoom v1 u = some r → MetC mX8_isRoom 0 [.ref 3, .int v1] u (tI r) :=
  met_of (by decide +kernel) (Nat.le_of_ble_eq_true rfl) rfl (sX8_isRoom v1 u)
def fX8_allThings (u : US) : Option (Int32 × US) :=
  oB (fX11_allOf (gI u 3 2) u) fun r1 u1 => some (r1, u1)
set_option maxRecDepth 20000 in
theorem sX8_allThings (u : US) : Sim tI mX8_allThings 1 (fX8_allThings u) 0 [some (.ref 3)] [] u := by
  unfold fX8_allThings
  refine r_aload_n dX8_allThings_0 rfl ?_
  refine r_get 3 2 flX8_44 rfl (v := .int (gI u 3 2)) rfl dX8_allThings_1 ?_
  refine c_NI (As := [.int (gI u 3 2)]) knX8_60 (by decide) (okX11_allOf (gI u 3 2) u) rfl (Nat.le_of_ble_eq_true rfl) rfl dX8_allThings_4 (fun r1 u1 => ?_)
  exact r_ireturn rfl dX8_allThings_7
theorem okX8_allThings (u : US) : ∀ r, fX8_allThings u = some r → MetC mX8_allThings 1 [.ref 3] u (tI r) :=
  met_of (by decide +kernel) (Nat.le_of_ble_eq_true rfl) rfl (sX8_allThings u)
def fX8_seenOf_16 (v1 : Nat) (v2 : Int32) (v3 : Int32) : Nat → Int32 → Int32 → Int32 → US → Option (Int32 × US)
  | 0, _, _, _, _ => none
  | n + 1, v4, v5, v6, u => (if (gI u 3 3) ≤ v6 then some (v5, u) else gd (inb v6 (ln (fpt v1 2))) ((if (gA u (fpt v1 2) v6) = v2 then oB (fX8_through v1 v6 (v4 &&& (v5 ^^^ (-1))) u) fun r1 u1 => fX8_seenOf_16 v1 v2 v3 n v4 (v5 ||| r1) (v6 + 1) u1 else fX8_seenOf_16 v1 v2 v3 n v4 v5 (v6 + 1) u)))
set_option maxRecDepth 20000 in
theorem sX8_seenOf_16 (v1 : Nat) (v2 : Int32) (v3 : Int32) (h1 : isMom v1 = true) : ∀ (n : Nat) (v4 : Int32) (v5 : Int32) (v6 : Int32) (u : US), Sim tI mX8_seenOf 7 (fX8_seenOf_16 v1 v2 v3 n v4 v5 v6 u) 16 [some (.ref 3), some (.ref v1), some (.int v2), some (.int v3), some (.int v4), some (.int v5), some (.int v6)] [] u := by
  intro n
  induction n with
  | zero =>
    intro v4 v5 v6 u
    rw [fX8_seenOf_16.eq_1]
    exact r_none
  | succ n ih =>
    intro v4 v5 v6 u
    rw [fX8_seenOf_16.eq_2]
    refine r_iload dX8_seenOf_16 rfl ?_
    refine r_aload_n dX8_seenOf_18 rfl ?_
    refine r_get 3 3 flX8_47 rfl (v := .int (gI u 3 3)) rfl dX8_seenOf_19 ?_
    refine r_icmp_ge dX8_seenOf_22 (tgt := 61) rfl ?_ ?_
    · refine r_iload dX8_seenOf_61 rfl ?_
      exact r_ireturn rfl dX8_seenOf_63
    · refine r_aload_n dX8_seenOf_25 rfl ?_
      refine r_get v1 2 flX8_106 (okO_mom h1) (v := .ref (fpt v1 2)) (slA_r (okO_mom h1) rfl rfl) dX8_seenOf_26 ?_
      refine r_iload dX8_seenOf_29 rfl ?_
      refine r_iald (fpt v1 2) (okA_mom h1 2 rfl) dX8_seenOf_31 ?_
      refine r_iload_n dX8_seenOf_32 rfl ?_
      refine r_icmp_ne dX8_seenOf_33 (tgt := 55) rfl ?_ ?_
      · refine r_iinc dX8_seenOf_55 (Nat.le_of_ble_eq_true rfl) rfl (v := v6 + 1) rfl (ls2 := [some (.ref 3), some (.ref v1), some (.int v2), some (.int v3), some (.int v4), some (.int v5), some (.int (v6 + 1))]) rfl ?_
        refine r_goto dX8_seenOf_58 (tgt := 16) rfl ?_
        exact ih v4 v5 (v6 + 1) u
      · refine r_iload dX8_seenOf_36 rfl ?_
        refine r_aload_n dX8_seenOf_38 rfl ?_
        refine r_aload_n dX8_seenOf_39 rfl ?_
        refine r_iload dX8_seenOf_40 rfl ?_
        refine r_iload dX8_seenOf_42 rfl ?_
        refine r_iload dX8_seenOf_44 rfl ?_
        refine r_iconst dX8_seenOf_46 (v := -1) rfl ?_
        refine r_ixor dX8_seenOf_47 ?_
        refine r_iand dX8_seenOf_48 ?_
        refine c_VI (As := [.ref v1, .int v6, .int (v4 &&& (v5 ^^^ (-1)))]) kvX8_152 rfl (by decide) (okX8_through v1 v6 (v4 &&& (v5 ^^^ (-1))) u) rfl (Nat.le_of_ble_eq_true rfl) rfl dX8_seenOf_49 (fun r1 u1 => ?_)
        refine r_ior dX8_seenOf_52 ?_
        refine r_istore dX8_seenOf_53 (Nat.le_of_ble_eq_true rfl) (ls2 := [some (.ref 3), some (.ref v1), some (.int v2), some (.int v3), some (.int v4), some (.int (v5 ||| r1)), some (.int v6)]) rfl ?_
        refine r_iinc dX8_seenOf_55 (Nat.le_of_ble_eq_true rfl) rfl (v := v6 + 1) rfl (ls2 := [some (.ref 3), some (.ref v1), some (.int v2), some (.int v3), some (.int v4), some (.int (v5 ||| r1)), some (.int (v6 + 1))]) rfl ?_
        refine r_goto dX8_seenOf_58 (tgt := 16) rfl ?_
        exact ih v4 (v5 ||| r1) (v6 + 1) u1
def fX8_seenOf (v1 : Nat) (v2 : Int32) (v3 : Int32) (u : US) : Option (Int32 × US) :=
  gd (isMom v1) (oB (fX8_near v1 v2 u) fun r1 u1 => fX8_seenOf_16 v1 v2 v3 FU (v3 &&& r1) 0 0 u1)
set_option maxRecDepth 20000 in
theorem sX8_seenOf (v1 : Nat) (v2 : Int32) (v3 : Int32) (u : US) : Sim tI mX8_seenOf 7 (fX8_seenOf v1 v2 v3 u) 0 [some (.ref 3), some (.ref v1), some (.int v2), some (.int v3), none, none, none] [] u := by
  unfold fX8_seenOf
  refine r_gd (fun h1 => ?_)
  refine r_iload_n dX8_seenOf_0 rfl ?_
  refine r_aload_n dX8_seenOf_1 rfl ?_
  refine r_aload_n dX8_seenOf_2 rfl ?_
  refine r_iload_n dX8_seenOf_3 rfl ?_
  refine c_VI (As := [.ref v1, .int v2]) kvX8_164 rfl (by decide) (okX8_near v1 v2 u) rfl (Nat.le_of_ble_eq_true rfl) rfl dX8_seenOf_4 (fun r1 u1 => ?_)
  refine r_iand dX8_seenOf_7 ?_
  refine r_istore dX8_seenOf_8 (Nat.le_of_ble_eq_true rfl) (ls2 := [some (.ref 3), some (.ref v1), some (.int v2), some (.int v3), some (.int (v3 &&& r1)), none, none]) rfl ?_
  refine r_iconst dX8_seenOf_10 (v := 0) rfl ?_
  refine r_istore dX8_seenOf_11 (Nat.le_of_ble_eq_true rfl) (ls2 := [some (.ref 3), some (.ref v1), some (.int v2), some (.int v3), some (.int (v3 &&& r1)), some (.int 0), none]) rfl ?_
  refine r_iconst dX8_seenOf_13 (v := 0) rfl ?_
  refine r_istore dX8_seenOf_14 (Nat.le_of_ble_eq_true rfl) (ls2 := [some (.ref 3), some (.ref v1), some (.int v2), some (.int v3), some (.int (v3 &&& r1)), some (.int 0), some (.int 0)]) rfl ?_
  exact sX8_seenOf_16 v1 v2 v3 h1 FU (v3 &&& r1) 0 0 u1
theorem okX8_seenOf (v1 : Nat) (v2 : Int32) (v3 : Int32) (u : US) : ∀ r, fX8_seenOf v1 v2 v3 u = some r → MetC mX8_seenOf 7 [.ref 3, .ref v1, .int v2, .int v3] u (tI r) :=
  met_of (by decide +kernel) (Nat.le_of_ble_eq_true rfl) rfl (sX8_seenOf v1 v2 v3 u)
def fX8_seenFrom (v1 : Nat) (v2 : Int32) (u : US) : Option (Int32 × US) :=
  gd (isMom v1) (oB (fX8_allThings u) fun r1 u1 => oB (fX8_seenOf v1 v2 r1 u1) fun r2 u2 => some (r2, u2))
set_option maxRecDepth 20000 in
theorem sX8_seenFrom (v1 : Nat) (v2 : Int32) (u : US) : Sim tI mX8_seenFrom 8 (fX8_seenFrom v1 v2 u) 0 [some (.ref 3), some (.ref v1), some (.int v2)] [] u := by
  unfold fX8_seenFrom
  refine r_gd (fun h1 => ?_)
  refine r_aload_n dX8_seenFrom_0 rfl ?_
  refine r_aload_n dX8_seenFrom_1 rfl ?_
  refine r_iload_n dX8_seenFrom_2 rfl ?_
  refine r_aload_n dX8_seenFrom_3 rfl ?_
  refine c_VI (As := []) kvX8_57 rfl (by decide) (okX8_allThings u) rfl (Nat.le_of_ble_eq_true rfl) rfl dX8_seenFrom_4 (fun r1 u1 => ?_)
  refine c_VI (As := [.ref v1, .int v2, .int r1]) kvX8_161 rfl (by decide) (okX8_seenOf v1 v2 r1 u1) rfl (Nat.le_of_ble_eq_true rfl) rfl dX8_seenFrom_7 (fun r2 u2 => ?_)
  exact r_ireturn rfl dX8_seenFrom_10
theorem okX8_seenFrom (v1 : Nat) (v2 : Int32) (u : US) : ∀ r, fX8_seenFrom v1 v2 u = some r → MetC mX8_seenFrom 8 [.ref 3, .ref v1, .int v2] u (tI r) :=
  met_of (by decide +kernel) (Nat.le_of_ble_eq_true rfl) rfl (sX8_seenFrom v1 v2 u)
def fX8_fieldBeside (v1 : Int32) (v2 : Int32) (u : US) : Option (Int32 × US) :=
  oB (fX8_rowOf v1 u) fun r1 u1 => oB (fX8_columnOf v1 u1) fun r2 u2 => (if v2 = 0 then (if r1 ≤ 0 then some ((-1), u2) else some (v1 - (gI u2 3 1), u2)) else (if v2 = 1 then (if ((gI u2 3 1) - 1) ≤ r2 then some ((-1), u2) else some (v1 + 1, u2)) else (if v2 = 2 then (if ((gI u2 3 0) - 1) ≤ r1 then some ((-1), u2) else some (v1 + (gI u2 3 1), u2)) else (if v2 = 3 then (if r2 ≤ 0 then some ((-1), u2) else some (v1 - 1, u2)) else some ((-1), u2)))))
set_option maxRecDepth 20000 in
theorem sX8_fieldBeside (v1 : Int32) (v2 : Int32) (u : US) : Sim tI mX8_fieldBeside 1 (fX8_fieldBeside v1 v2 u) 0 [some (.ref 3), some (.int v1), some (.int v2), none, none] [] u := by
  unfold fX8_fieldBeside
  refine r_aload_n dX8_fieldBeside_0 rfl ?_
  refine r_iload_n dX8_fieldBeside_1 rfl ?_
  refine c_VI (As := [.int v1]) kvX8_121 rfl (by decide) (okX8_rowOf v1 u) rfl (Nat.le_of_ble_eq_true rfl) rfl dX8_fieldBeside_2 (fun r1 u1 => ?_)
  refine r_istore_n dX8_fieldBeside_5 (Nat.le_of_ble_eq_true rfl) (ls2 := [some (.ref 3), some (.int v1), some (.int v2), some (.int r1), none]) rfl ?_
  refine r_aload_n dX8_fieldBeside_6 rfl ?_
  refine r_iload_n dX8_fieldBeside_7 rfl ?_
  refine c_VI (As := [.int v1]) kvX8_124 rfl (by decide) (okX8_columnOf v1 u1) rfl (Nat.le_of_ble_eq_true rfl) rfl dX8_fieldBeside_8 (fun r2 u2 => ?_)
  refine r_istore dX8_fieldBeside_11 (Nat.le_of_ble_eq_true rfl) (ls2 := [some (.ref 3), some (.int v1), some (.int v2), some (.int r1), some (.int r2)]) rfl ?_
  refine r_iload_n dX8_fieldBeside_13 rfl ?_
  refine r_ite (fun hc0 => ?_) (fun hc0 => ?_)
  · refine r_tabIn dX8_fieldBeside_14 (off := 30) (by rw [hc0]; decide) (by rw [hc0]; decide) (by rw [hc0]; rfl) (tgt := 44) rfl ?_
    refine r_iload_n dX8_fieldBeside_44 rfl ?_
    refine r_if_le dX8_fieldBeside_45 (tgt := 57) rfl ?_ ?_
    · refine r_iconst dX8_fieldBeside_57 (v := -1) rfl ?_
      exact r_ireturn rfl dX8_fieldBeside_58
    · refine r_iload_n dX8_fieldBeside_48 rfl ?_
      refine r_aload_n dX8_fieldBeside_49 rfl ?_
      refine r_get 3 1 flX8_15 rfl (v := .int (gI u2 3 1)) rfl dX8_fieldBeside_50 ?_
      refine r_isub dX8_fieldBeside_53 ?_
      refine r_goto dX8_fieldBeside_54 (tgt := 58) rfl ?_
      exact r_ireturn rfl dX8_fieldBeside_58
  refine r_ite (fun hc1 => ?_) (fun hc1 => ?_)
  · refine r_tabIn dX8_fieldBeside_14 (off := 45) (by rw [hc1]; decide) (by rw [hc1]; decide) (by rw [hc1]; rfl) (tgt := 59) rfl ?_
    refine r_iload dX8_fieldBeside_59 rfl ?_
    refine r_aload_n dX8_fieldBeside_61 rfl ?_
    refine r_get 3 1 flX8_15 rfl (v := .int (gI u2 3 1)) rfl dX8_fieldBeside_62 ?_
    refine r_iconst dX8_fieldBeside_65 (v := 1) rfl ?_
    refine r_isub dX8_fieldBeside_66 ?_
    refine r_icmp_ge dX8_fieldBeside_67 (tgt := 76) rfl ?_ ?_
    · refine r_iconst dX8_fieldBeside_76 (v := -1) rfl ?_
      exact r_ireturn rfl dX8_fieldBeside_77
    · refine r_iload_n dX8_fieldBeside_70 rfl ?_
      refine r_iconst dX8_fieldBeside_71 (v := 1) rfl ?_
      refine r_iadd dX8_fieldBeside_72 ?_
      refine r_goto dX8_fieldBeside_73 (tgt := 77) rfl ?_
      exact r_ireturn rfl dX8_fieldBeside_77
  refine r_ite (fun hc2 => ?_) (fun hc2 => ?_)
  · refine r_tabIn dX8_fieldBeside_14 (off := 64) (by rw [hc2]; decide) (by rw [hc2]; decide) (by rw [hc2]; rfl) (tgt := 78) rfl ?_
    refine r_iload_n dX8_fieldBeside_78 rfl ?_
    refine r_aload_n dX8_fieldBeside_79 rfl ?_
    refine r_get 3 0 flX8_9 rfl (v := .int (gI u2 3 0)) rfl dX8_fieldBeside_80 ?_
    refine r_iconst dX8_fieldBeside_83 (v := 1) rfl ?_
    refine r_isub dX8_fieldBeside_84 ?_
    refine r_icmp_ge dX8_fieldBeside_85 (tgt := 97) rfl ?_ ?_
    · refine r_iconst dX8_fieldBeside_97 (v := -1) rfl ?_
      exact r_ireturn rfl dX8_fieldBeside_98
    · refine r_iload_n dX8_fieldBeside_88 rfl ?_
      refine r_aload_n dX8_fieldBeside_89 rfl ?_
      refine r_get 3 1 flX8_15 rfl (v := .int (gI u2 3 1)) rfl dX8_fieldBeside_90 ?_
      refine r_iadd dX8_fieldBeside_93 ?_
      refine r_goto dX8_fieldBeside_94 (tgt := 98) rfl ?_
      exact r_ireturn rfl dX8_fieldBeside_98
  refine r_ite (fun hc3 => ?_) (fun hc3 => ?_)
  · refine r_tabIn dX8_fieldBeside_14 (off := 85) (by rw [hc3]; decide) (by rw [hc3]; decide) (by rw [hc3]; rfl) (tgt := 99) rfl ?_
    refine r_iload dX8_fieldBeside_99 rfl ?_
    refine r_if_le dX8_fieldBeside_101 (tgt := 110) rfl ?_ ?_
    · refine r_iconst dX8_fieldBeside_110 (v := -1) rfl ?_
      exact r_ireturn rfl dX8_fieldBeside_111
    · refine r_iload_n dX8_fieldBeside_104 rfl ?_
      refine r_iconst dX8_fieldBeside_105 (v := 1) rfl ?_
      refine r_isub dX8_fieldBeside_106 ?_
      refine r_goto dX8_fieldBeside_107 (tgt := 111) rfl ?_
      exact r_ireturn rfl dX8_fieldBeside_111
  have hn0 := ne_int hc0
  have hn1 := ne_int hc1
  have hn2 := ne_int hc2
  have hn3 := ne_int hc3
  rw [show (0 : Int32).toInt = 0 from rfl] at hn0
  rw [show (1 : Int32).toInt = 1 from rfl] at hn1
  rw [show (2 : Int32).toInt = 2 from rfl] at hn2
  rw [show (3 : Int32).toInt = 3 from rfl] at hn3
  refine r_tabOut dX8_fieldBeside_14 (by omega) (tgt := 112) rfl ?_
  refine r_iconst dX8_fieldBeside_112 (v := -1) rfl ?_
  exact r_ireturn rfl dX8_fieldBeside_113
theorem okX8_fieldBeside (v1 : Int32) (v2 : Int32) (u : US) : ∀ r, fX8_fieldBeside v1 v2 u = some r → MetC mX8_fieldBeside 1 [.ref 3, .int v1, .int v2] u (tI r) :=
  met_of (by decide +kernel) (Nat.le_of_ble_eq_true rfl) rfl (sX8_fieldBeside v1 v2 u)
def fX8_walk_2 (v1 : Nat) : Nat → Int32 → US → Option (US)
  | 0, _, _ => none
  | n + 1, v2, u => (if (gI u 3 2) ≤ v2 then nx (sI u v1 4 ((gI u v1 4) + 1)) fun u1 => some u1 else gd (inb v2 (ln (fpt v1 1))) (gd (inb v2 (ln (fpt v1 0))) (oB (fX8_fieldBeside (gA u (fpt v1 0) v2) (gA u (fpt v1 1) v2) u) fun r2 u2 => (if r2 = (-1) then (if (gA u (fpt v1 1) v2) = 4 then fX8_walk_2 v1 n (v2 + 1) u2 else gd (inb v2 (ln (fpt v1 1))) (nx (sA u2 (fpt v1 1) v2 ((gA u (fpt v1 1) v2) ^^^ 2)) fun u3 => fX8_walk_2 v1 n (v2 + 1) u3)) else gd (inb v2 (ln (fpt v1 0))) (nx (sA u2 (fpt v1 0) v2 r2) fun u4 => fX8_walk_2 v1 n (v2 + 1) u4)))))
set_option maxRecDepth 20000 in
theorem sX8_walk_2 (v1 : Nat) (h1 : isMom v1 = true) : ∀ (n : Nat) (v2 : Int32) (u : US), Sim tV mX8_walk 2 (fX8_walk_2 v1 n v2 u) 2 [some (.ref 3), some (.ref v1), some (.int v2), none, none] [] u := by
  intro n
  induction n with
  | zero =>
    intro v2 u
    rw [fX8_walk_2.eq_1]
    exact r_none
  | succ n ih =>
    intro v2 u
    rw [fX8_walk_2.eq_2]
    refine r_iload_n dX8_walk_2 rfl ?_
    refine r_aload_n dX8_walk_3 rfl ?_
    refine r_get 3 2 flX8_44 rfl (v := .int (gI u 3 2)) rfl dX8_walk_4 ?_
    refine r_icmp_ge dX8_walk_7 (tgt := 67) rfl ?_ ?_
    · refine r_aload_n dX8_walk_67 rfl ?_
      refine r_dup dX8_walk_68 rfl ?_
      refine r_get v1 4 flX8_118 (okO_mom h1) (v := .int (gI u v1 4)) (slA_i (okO_mom h1) rfl) dX8_walk_69 ?_
      refine r_iconst dX8_walk_72 (v := 1) rfl ?_
      refine r_iadd dX8_walk_73 ?_
      refine r_put v1 4 fpX8_118 (okO_mom h1) rfl dX8_walk_74 (r_nx (fun u1 => ?_))
      exact r_return rfl dX8_walk_77
    · refine r_aload_n dX8_walk_10 rfl ?_
      refine r_get v1 1 flX8_82 (okO_mom h1) (v := .ref (fpt v1 1)) (slA_r (okO_mom h1) rfl rfl) dX8_walk_11 ?_
      refine r_iload_n dX8_walk_14 rfl ?_
      refine r_iald (fpt v1 1) (okA_mom h1 1 rfl) dX8_walk_15 ?_
      refine r_istore_n dX8_walk_16 (Nat.le_of_ble_eq_true rfl) (ls2 := [some (.ref 3), some (.ref v1), some (.int v2), some (.int (gA u (fpt v1 1) v2)), none]) rfl ?_
      refine r_aload_n dX8_walk_17 rfl ?_
      refine r_aload_n dX8_walk_18 rfl ?_
      refine r_get v1 0 flX8_73 (okO_mom h1) (v := .ref (fpt v1 0)) (slA_r (okO_mom h1) rfl rfl) dX8_walk_19 ?_
      refine r_iload_n dX8_walk_22 rfl ?_
      refine r_iald (fpt v1 0) (okA_mom h1 0 rfl) dX8_walk_23 ?_
      refine r_iload_n dX8_walk_24 rfl ?_
      refine c_VI (As := [.int (gA u (fpt v1 0) v2), .int (gA u (fpt v1 1) v2)]) kvX8_115 rfl (by decide) (okX8_fieldBeside (gA u (fpt v1 0) v2) (gA u (fpt v1 1) v2) u) rfl (Nat.le_of_ble_eq_true rfl) rfl dX8_walk_25 (fun r2 u2 => ?_)
      refine r_istore dX8_walk_28 (Nat.le_of_ble_eq_true rfl) (ls2 := [some (.ref 3), some (.ref v1), some (.int v2), some (.int (gA u (fpt v1 1) v2)), some (.int r2)]) rfl ?_
      refine r_iload dX8_walk_30 rfl ?_
      refine r_iconst dX8_walk_32 (v := -1) rfl ?_
      refine r_icmp_eq dX8_walk_33 (tgt := 47) rfl ?_ ?_
      · refine r_iload_n dX8_walk_47 rfl ?_
        refine r_iconst dX8_walk_48 (v := 4) rfl ?_
        refine r_icmp_eq dX8_walk_49 (tgt := 61) rfl ?_ ?_
        · refine r_iinc dX8_walk_61 (Nat.le_of_ble_eq_true rfl) rfl (v := v2 + 1) rfl (ls2 := [some (.ref 3), some (.ref v1), some (.int (v2 + 1)), some (.int (gA u (fpt v1 1) v2)), some (.int r2)]) rfl ?_
          refine r_goto dX8_walk_64 (tgt := 2) rfl ?_
          refine r_mk [true, true, true, false, false] (ls2 := [some (.ref 3), some (.ref v1), some (.int (v2 + 1)), none, none]) rfl ?_
          exact ih (v2 + 1) u2
        · refine r_aload_n dX8_walk_52 rfl ?_
          refine r_get v1 1 flX8_82 (okO_mom h1) (v := .ref (fpt v1 1)) (slA_r (okO_mom h1) rfl rfl) dX8_walk_53 ?_
          refine r_iload_n dX8_walk_56 rfl ?_
          refine r_iload_n dX8_walk_57 rfl ?_
          refine r_iconst dX8_walk_58 (v := 2) rfl ?_
          refine r_ixor dX8_walk_59 ?_
          refine r_iast (fpt v1 1) (okA_mom h1 1 rfl) dX8_walk_60 (r_nx (fun u3 => ?_))
          refine r_iinc dX8_walk_61 (Nat.le_of_ble_eq_true rfl) rfl (v := v2 + 1) rfl (ls2 := [some (.ref 3), some (.ref v1), some (.int (v2 + 1)), some (.int (gA u (fpt v1 1) v2)), some (.int r2)]) rfl ?_
          refine r_goto dX8_walk_64 (tgt := 2) rfl ?_
          refine r_mk [true, true, true, false, false] (ls2 := [some (.ref 3), some (.ref v1), some (.int (v2 + 1)), none, none]) rfl ?_
          exact ih (v2 + 1) u3
      · refine r_aload_n dX8_walk_36 rfl ?_
        refine r_get v1 0 flX8_73 (okO_mom h1) (v := .ref (fpt v1 0)) (slA_r (okO_mom h1) rfl rfl) dX8_walk_37 ?_
        refine r_iload_n dX8_walk_40 rfl ?_
        refine r_iload dX8_walk_41 rfl ?_
        refine r_iast (fpt v1 0) (okA_mom h1 0 rfl) dX8_walk_43 (r_nx (fun u4 => ?_))
        refine r_goto dX8_walk_44 (tgt := 61) rfl ?_
        refine r_iinc dX8_walk_61 (Nat.le_of_ble_eq_true rfl) rfl (v := v2 + 1) rfl (ls2 := [some (.ref 3), some (.ref v1), some (.int (v2 + 1)), some (.int (gA u (fpt v1 1) v2)), some (.int r2)]) rfl ?_
        refine r_goto dX8_walk_64 (tgt := 2) rfl ?_
        refine r_mk [true, true, true, false, false] (ls2 := [some (.ref 3), some (.ref v1), some (.int (v2 + 1)), none, none]) rfl ?_
        exact ih (v2 + 1) u4
def fX8_walk (v1 : Nat) (u : US) : Option (US) :=
  gd (isMom v1) (fX8_walk_2 v1 FU 0 u)
set_option maxRecDepth 20000 in
theorem sX8_walk (v1 : Nat) (u : US) : Sim tV mX8_walk 2 (fX8_walk v1 u) 0 [some (.ref 3), some (.ref v1), none, none, none] [] u := by
  unfold fX8_walk
  refine r_gd (fun h1 => ?_)
  refine r_iconst dX8_walk_0 (v := 0) rfl ?_
  refine r_istore_n dX8_walk_1 (Nat.le_of_ble_eq_true rfl) (ls2 := [some (.ref 3), some (.ref v1), some (.int 0), none, none]) rfl ?_
  exact sX8_walk_2 v1 h1 FU 0 u
theorem okX8_walk (v1 : Nat) (u : US) : ∀ r, fX8_walk v1 u = some r → MetC mX8_walk 2 [.ref 3, .ref v1] u (tV r) :=
  met_of (by decide +kernel) (Nat.le_of_ble_eq_true rfl) rfl (sX8_walk v1 u)
def fX11_ahead_124 (v1 : Int32) (v2 : Int32) (v3 : Int32) (s1 : Int64) (s2 : Int64) (u : US) : Option (Int32 × US) :=
  oV (fX2_tellTwo s1 s2 u) fun u1 => some (v3, u1)
set_option maxRecDepth 20000 in
theorem sX11_ahead_124 (v1 : Int32) (v2 : Int32) (v3 : Int32) (s1 : Int64) (s2 : Int64) (u : US) : Sim tI mX11_ahead 9 (fX11_ahead_124 v1 v2 v3 s1 s2 u) 124 [some (.ref 0), some (.int v1), some (.int v2), some (.int v3), none] [.long s2, .long s1, .ref 8] u := by
  unfold fX11_ahead_124
  refine c_VV (As := [.long s1, .long s2]) kvX11_298 rfl (by decide) (okX2_tellTwo s1 s2 u) rfl (Nat.le_of_ble_eq_true rfl) rfl dX11_ahead_124 (fun u1 => ?_)
  refine r_iload_n dX11_ahead_127 rfl ?_
  exact r_ireturn rfl dX11_ahead_128
def fX11_ahead_91 (v1 : Int32) (v2 : Int32) (v3 : Int32) (s0 : Int32) (u : US) : Option (Int32 × US) :=
  oB (fJ6_bitCount_0f7a4 v3 u) fun r1 u1 => (if s0 = 0 then fX11_ahead_124 v1 v2 v3 ((r1 : Int32).toInt64) 0 u1 else oB (fX8_near 6 v1 u1) fun r2 u2 => fX11_ahead_124 v1 v2 v3 ((r1 : Int32).toInt64) ((r2 : Int32).toInt64) u2)
set_option maxRecDepth 20000 in
theorem sX11_ahead_91 (v1 : Int32) (v2 : Int32) (v3 : Int32) (s0 : Int32) (u : US) : Sim tI mX11_ahead 9 (fX11_ahead_91 v1 v2 v3 s0 u) 91 [some (.ref 0), some (.int v1), some (.int v2), some (.int v3), none] [.int s0] u := by
  unfold fX11_ahead_91
  refine r_istore dX11_ahead_91 (Nat.le_of_ble_eq_true rfl) (ls2 := [some (.ref 0), some (.int v1), some (.int v2), some (.int v3), some (.int s0)]) rfl ?_
  refine r_aload_n dX11_ahead_93 rfl ?_
  refine r_get 0 7 flX11_55 rfl (v := .ref 8) rfl dX11_ahead_94 ?_
  refine r_iload_n dX11_ahead_97 rfl ?_
  refine c_SI (As := [.int v3]) ksX11_254 (by decide) (okJ6_bitCount_0f7a4 v3 u) rfl (Nat.le_of_ble_eq_true rfl) rfl dX11_ahead_98 (fun r1 u1 => ?_)
  refine r_i2l dX11_ahead_101 ?_
  refine r_iload dX11_ahead_102 rfl ?_
  refine r_if_eq dX11_ahead_104 (tgt := 123) rfl ?_ ?_
  · refine r_lconst dX11_ahead_123 (v := 0) rfl ?_
    refine r_mk [true, true, true, true, false] (ls2 := [some (.ref 0), some (.int v1), some (.int v2), some (.int v3), none]) rfl ?_
    exact sX11_ahead_124 v1 v2 v3 ((r1 : Int32).toInt64) 0 u1
  · refine r_aload_n dX11_ahead_107 rfl ?_
    refine r_get 0 2 flX11_28 rfl (v := .ref 3) rfl dX11_ahead_108 ?_
    refine r_aload_n dX11_ahead_111 rfl ?_
    refine r_get 0 5 flX11_42 rfl (v := .ref 6) rfl dX11_ahead_112 ?_
    refine r_iload_n dX11_ahead_115 rfl ?_
    refine c_VI (As := [.ref 6, .int v1]) kvX11_224 rfl (by decide) (okX8_near 6 v1 u1) rfl (Nat.le_of_ble_eq_true rfl) rfl dX11_ahead_116 (fun r2 u2 => ?_)
    refine r_i2l dX11_ahead_119 ?_
    refine r_goto dX11_ahead_120 (tgt := 124) rfl ?_
    refine r_mk [true, true, true, true, false] (ls2 := [some (.ref 0), some (.int v1), some (.int v2), some (.int v3), none]) rfl ?_
    exact sX11_ahead_124 v1 v2 v3 ((r1 : Int32).toInt64) ((r2 : Int32).toInt64) u2
def fX11_ahead_36 (v1 : Int32) (v2 : Int32) : Nat → Int32 → US → Option (Int32 × US)
  | 0, _, _ => none
  | n + 1, v3, u => (if v2 ≤ v3 then oB (fX8_seenFrom 6 v1 u) fun r1 u1 => oB (fX8_panesIn 6 v1 u1) fun r2 u2 => (if r2 = 0 then fX11_ahead_91 v1 v2 r1 0 u2 else fX11_ahead_91 v1 v2 r1 1 u2) else oV (fX8_walk 6 u) fun u3 => fX11_ahead_36 v1 v2 n (v3 + 1) u3)
set_option maxRecDepth 20000 in
theorem sX11_ahead_36 (v1 : Int32) (v2 : Int32) : ∀ (n : Nat) (v3 : Int32) (u : US), Sim tI mX11_ahead 9 (fX11_ahead_36 v1 v2 n v3 u) 36 [some (.ref 0), some (.int v1), some (.int v2), some (.int v3), none] [] u := by
  intro n
  induction n with
  | zero =>
    intro v3 u
    rw [fX11_ahead_36.eq_1]
    exact r_none
  | succ n ih =>
    intro v3 u
    rw [fX11_ahead_36.eq_2]
    refine r_iload_n dX11_ahead_36 rfl ?_
    refine r_iload_n dX11_ahead_37 rfl ?_
    refine r_icmp_ge dX11_ahead_38 (tgt := 58) rfl ?_ ?_
    · refine r_aload_n dX11_ahead_58 rfl ?_
      refine r_get 0 2 flX11_28 rfl (v := .ref 3) rfl dX11_ahead_59 ?_
      refine r_aload_n dX11_ahead_62 rfl ?_
      refine r_get 0 5 flX11_42 rfl (v := .ref 6) rfl dX11_ahead_63 ?_
      refine r_iload_n dX11_ahead_66 rfl ?_
      refine c_VI (As := [.ref 6, .int v1]) kvX11_221 rfl (by decide) (okX8_seenFrom 6 v1 u) rfl (Nat.le_of_ble_eq_true rfl) rfl dX11_ahead_67 (fun r1 u1 => ?_)
      refine r_istore_n dX11_ahead_70 (Nat.le_of_ble_eq_true rfl) (ls2 := [some (.ref 0), some (.int v1), some (.int v2), some (.int r1), none]) rfl ?_
      refine r_aload_n dX11_ahead_71 rfl ?_
      refine r_get 0 2 flX11_28 rfl (v := .ref 3) rfl dX11_ahead_72 ?_
      refine r_aload_n dX11_ahead_75 rfl ?_
      refine r_get 0 5 flX11_42 rfl (v := .ref 6) rfl dX11_ahead_76 ?_
      refine r_iload_n dX11_ahead_79 rfl ?_
      refine c_VI (As := [.ref 6, .int v1]) kvX11_218 rfl (by decide) (okX8_panesIn 6 v1 u1) rfl (Nat.le_of_ble_eq_true rfl) rfl dX11_ahead_80 (fun r2 u2 => ?_)
      refine r_if_eq dX11_ahead_83 (tgt := 90) rfl ?_ ?_
      · refine r_iconst dX11_ahead_90 (v := 0) rfl ?_
        exact sX11_ahead_91 v1 v2 r1 0 u2
      · refine r_iconst dX11_ahead_86 (v := 1) rfl ?_
        refine r_goto dX11_ahead_87 (tgt := 91) rfl ?_
        exact sX11_ahead_91 v1 v2 r1 1 u2
    · refine r_aload_n dX11_ahead_41 rfl ?_
      refine r_get 0 2 flX11_28 rfl (v := .ref 3) rfl dX11_ahead_42 ?_
      refine r_aload_n dX11_ahead_45 rfl ?_
      refine r_get 0 5 flX11_42 rfl (v := .ref 6) rfl dX11_ahead_46 ?_
      refine c_VV (As := [.ref 6]) kvX11_273 rfl (by decide) (okX8_walk 6 u) rfl (Nat.le_of_ble_eq_true rfl) rfl dX11_ahead_49 (fun u3 => ?_)
      refine r_iinc dX11_ahead_52 (Nat.le_of_ble_eq_true rfl) rfl (v := v3 + 1) rfl (ls2 := [some (.ref 0), some (.int v1), some (.int v2), some (.int (v3 + 1)), none]) rfl ?_
      refine r_goto dX11_ahead_55 (tgt := 36) rfl ?_
      exact ih (v3 + 1) u3
def fX11_ahead (v1 : Int32) (v2 : Int32) (u : US) : Option (Int32 × US) :=
  oB (fX8_isRoom v1 u) fun r1 u1 => (if r1 = 0 then some ((-1), u1) else (if v2 < 0 then some ((-1), u1) else (if v2 ≤ 99 then oV (fX1_copy 6 4 u1) fun u2 => fX11_ahead_36 v1 v2 FU 0 u2 else some ((-1), u1))))
set_option maxRecDepth 20000 in
theorem sX11_ahead (v1 : Int32) (v2 : Int32) (u : US) : Sim tI mX11_ahead 9 (fX11_ahead v1 v2 u) 0 [some (.ref 0), some (.int v1), some (.int v2), none, none] [] u := by
  unfold fX11_ahead
  refine r_aload_n dX11_ahead_0 rfl ?_
  refine r_get 0 2 flX11_28 rfl (v := .ref 3) rfl dX11_ahead_1 ?_
  refine r_iload_n dX11_ahead_4 rfl ?_
  refine c_VI (As := [.int v1]) kvX11_209 rfl (by decide) (okX8_isRoom v1 u) rfl (Nat.le_of_ble_eq_true rfl) rfl dX11_ahead_5 (fun r1 u1 => ?_)
  refine r_if_eq dX11_ahead_8 (tgt := 21) rfl ?_ ?_
  · refine r_iconst dX11_ahead_21 (v := -1) rfl ?_
    exact r_ireturn rfl dX11_ahead_22
  · refine r_iload_n dX11_ahead_11 rfl ?_
    refine r_if_lt dX11_ahead_12 (tgt := 21) rfl ?_ ?_
    · refine r_iconst dX11_ahead_21 (v := -1) rfl ?_
      exact r_ireturn rfl dX11_ahead_22
    · refine r_iload_n dX11_ahead_15 rfl ?_
      refine r_bipush dX11_ahead_16 (v := 99) rfl ?_
      refine r_icmp_le dX11_ahead_18 (tgt := 23) rfl ?_ ?_
      · refine r_aload_n dX11_ahead_23 rfl ?_
        refine r_get 0 5 flX11_42 rfl (v := .ref 6) rfl dX11_ahead_24 ?_
        refine r_aload_n dX11_ahead_27 rfl ?_
        refine r_get 0 3 flX11_35 rfl (v := .ref 4) rfl dX11_ahead_28 ?_
        refine c_VV (As := [.ref 4]) kvX11_231 rfl (by decide) (okX1_copy 6 4 u1) rfl (Nat.le_of_ble_eq_true rfl) rfl dX11_ahead_31 (fun u2 => ?_)
        refine r_iconst dX11_ahead_34 (v := 0) rfl ?_
        refine r_istore_n dX11_ahead_35 (Nat.le_of_ble_eq_true rfl) (ls2 := [some (.ref 0), some (.int v1), some (.int v2), some (.int 0), none]) rfl ?_
        exact sX11_ahead_36 v1 v2 FU 0 u2
      · refine r_iconst dX11_ahead_21 (v := -1) rfl ?_
        exact r_ireturn rfl dX11_ahead_22
theorem okX11_ahead (v1 : Int32) (v2 : Int32) (u : US) : ∀ r, fX11_ahead v1 v2 u = some r → MetC mX11_ahead 9 [.ref 0, .int v1, .int v2] u (tI r) :=
  met_of (by decide +kernel) (Nat.le_of_ble_eq_true rfl) rfl (sX11_ahead v1 v2 u)
def fX4_forgetAll (u : US) : Option (US) :=
  nx (sI u 7 3 0) fun u1 => nx (sI u1 7 2 0) fun u2 => some u2
set_option maxRecDepth 20000 in
theorem sX4_forgetAll (u : US) : Sim tV mX4_forgetAll 0 (fX4_forgetAll u) 0 [some (.ref 7)] [] u := by
  unfold fX4_forgetAll
  refine r_aload_n dX4_forgetAll_0 rfl ?_
  refine r_iconst dX4_forgetAll_1 (v := 0) rfl ?_
  refine r_put 7 3 fpX4_20 rfl rfl dX4_forgetAll_2 (r_nx (fun u1 => ?_))
  refine r_aload_n dX4_forgetAll_5 rfl ?_
  refine r_iconst dX4_forgetAll_6 (v := 0) rfl ?_
  refine r_put 7 2 fpX4_24 rfl rfl dX4_forgetAll_7 (r_nx (fun u2 => ?_))
  exact r_return rfl dX4_forgetAll_10
theorem okX4_forgetAll (u : US) : ∀ r, fX4_forgetAll u = some r → MetC mX4_forgetAll 0 [.ref 7] u (tV r) :=
  met_of (by decide +kernel) (Nat.le_of_ble_eq_true rfl) rfl (sX4_forgetAll u)
def fX7_clear (u : US) : Option (US) :=
  nx (sI u 1 1 0) fun u1 => some u1
set_option maxRecDepth 20000 in
theorem sX7_clear (u : US) : Sim tV mX7_clear 0 (fX7_clear u) 0 [some (.ref 1)] [] u := by
  unfold fX7_clear
  refine r_aload_n dX7_clear_0 rfl ?_
  refine r_iconst dX7_clear_1 (v := 0) rfl ?_
  refine r_put 1 1 fpX7_15 rfl rfl dX7_clear_2 (r_nx (fun u1 => ?_))
  exact r_return rfl dX7_clear_5
theorem okX7_clear (u : US) : ∀ r, fX7_clear u = some r → MetC mX7_clear 0 [.ref 1] u (tV r) :=
  met_of (by decide +kernel) (Nat.le_of_ble_eq_true rfl) rfl (sX7_clear u)
def fX11_arrived (v1 : Int32) (u : US) : Option (Int32 × US) :=
  oV (fX7_clear u) fun u1 => (if v1 ≤ 0 then some (v1, u1) else oV (fX4_forgetAll u1) fun u2 => some (v1, u2))
set_option maxRecDepth 20000 in
theorem sX11_arrived (v1 : Int32) (u : US) : Sim tI mX11_arrived 1 (fX11_arrived v1 u) 0 [some (.ref 0), some (.int v1)] [] u := by
  unfold fX11_arrived
  refine r_aload_n dX11_arrived_0 rfl ?_
  refine r_get 0 0 flX11_10 rfl (v := .ref 1) rfl dX11_arrived_1 ?_
  refine c_VV (As := []) kvX11_115 rfl (by decide) (okX7_clear u) rfl (Nat.le_of_ble_eq_true rfl) rfl dX11_arrived_4 (fun u1 => ?_)
  refine r_iload_n dX11_arrived_7 rfl ?_
  refine r_if_le dX11_arrived_8 (tgt := 18) rfl ?_ ?_
  · refine r_iload_n dX11_arrived_18 rfl ?_
    exact r_ireturn rfl dX11_arrived_19
  · refine r_aload_n dX11_arrived_11 rfl ?_
    refine r_get 0 6 flX11_48 rfl (v := .ref 7) rfl dX11_arrived_12 ?_
    refine c_VV (As := []) kvX11_123 rfl (by decide) (okX4_forgetAll u1) rfl (Nat.le_of_ble_eq_true rfl) rfl dX11_arrived_15 (fun u2 => ?_)
    refine r_iload_n dX11_arrived_18 rfl ?_
    exact r_ireturn rfl dX11_arrived_19
theorem okX11_arrived (v1 : Int32) (u : US) : ∀ r, fX11_arrived v1 u = some r → MetC mX11_arrived 1 [.ref 0, .int v1] u (tI r) :=
  met_of (by decide +kernel) (Nat.le_of_ble_eq_true rfl) rfl (sX11_arrived v1 u)
def fX11_breakPane (v1 : Int32) (u : US) : Option (Int32 × US) :=
  oB (fX8_isPane v1 u) fun r1 u1 => (if r1 = 0 then some ((-1), u1) else oB (fX1_isBroken 4 v1 u1) fun r2 u2 => (if r2 = 0 then nx (sI u2 4 3 ((gI u2 4 3) ||| (1 <<< (v1 &&& 31)))) fun u3 => oB (fJ6_bitCount_0f7a4 (gI u3 4 3) u3) fun r4 u4 => some (r4, u4) else some ((-2), u2)))
set_option maxRecDepth 20000 in
theorem sX11_breakPane (v1 : Int32) (u : US) : Sim tI mX11_breakPane 2 (fX11_breakPane v1 u) 0 [some (.ref 0), some (.int v1)] [] u := by
  unfold fX11_breakPane
  refine r_aload_n dX11_breakPane_0 rfl ?_
  refine r_get 0 2 flX11_28 rfl (v := .ref 3) rfl dX11_breakPane_1 ?_
  refine r_iload_n dX11_breakPane_4 rfl ?_
  refine c_VI (As := [.int v1]) kvX11_187 rfl (by decide) (okX8_isPane v1 u) rfl (Nat.le_of_ble_eq_true rfl) rfl dX11_breakPane_5 (fun r1 u1 => ?_)
  refine r_if_ne dX11_breakPane_8 (tgt := 13) rfl ?_ ?_
  · refine r_aload_n dX11_breakPane_13 rfl ?_
    refine r_get 0 3 flX11_35 rfl (v := .ref 4) rfl dX11_breakPane_14 ?_
    refine r_iload_n dX11_breakPane_17 rfl ?_
    refine c_VI (As := [.int v1]) kvX11_199 rfl (by decide) (okX1_isBroken 4 v1 u1) rfl (Nat.le_of_ble_eq_true rfl) rfl dX11_breakPane_18 (fun r2 u2 => ?_)
    refine r_if_eq dX11_breakPane_21 (tgt := 27) rfl ?_ ?_
    · refine r_aload_n dX11_breakPane_27 rfl ?_
      refine r_get 0 3 flX11_35 rfl (v := .ref 4) rfl dX11_breakPane_28 ?_
      refine r_dup dX11_breakPane_31 rfl ?_
      refine r_get 4 3 flX11_259 rfl (v := .int (gI u2 4 3)) rfl dX11_breakPane_32 ?_
      refine r_iconst dX11_breakPane_35 (v := 1) rfl ?_
      refine r_iload_n dX11_breakPane_36 rfl ?_
      refine r_ishl dX11_breakPane_37 ?_
      refine r_ior dX11_breakPane_38 ?_
      refine r_put 4 3 fpX11_259 rfl rfl dX11_breakPane_39 (r_nx (fun u3 => ?_))
      refine r_aload_n dX11_breakPane_42 rfl ?_
      refine r_get 0 3 flX11_35 rfl (v := .ref 4) rfl dX11_breakPane_43 ?_
      refine r_get 4 3 flX11_259 rfl (v := .int (gI u3 4 3)) rfl dX11_breakPane_46 ?_
      refine c_SI (As := [.int (gI u3 4 3)]) ksX11_254 (by decide) (okJ6_bitCount_0f7a4 (gI u3 4 3) u3) rfl (Nat.le_of_ble_eq_true rfl) rfl dX11_breakPane_49 (fun r4 u4 => ?_)
      exact r_ireturn rfl dX11_breakPane_52
    · refine r_bipush dX11_breakPane_24 (v := -2) rfl ?_
      exact r_ireturn rfl dX11_breakPane_26
  · refine r_iconst dX11_breakPane_11 (v := -1) rfl ?_
    exact r_ireturn rfl dX11_breakPane_12
theorem okX11_breakPane (v1 : Int32) (u : US) : ∀ r, fX11_breakPane v1 u = some r → MetC mX11_breakPane 2 [.ref 0, .int v1] u (tI r) :=
  met_of (by decide +kernel) (Nat.le_of_ble_eq_true rfl) rfl (sX11_breakPane v1 u)
def fX1_write (v0 : Nat) (v1 : Nat) (v2 : Int32) (u : US) : Option (US) :=
  gd (isMom v0) (gd (okA v1 20) ((if (v2 * 26) < 0 then some u else (if (v2 * 26) ≤ ((Int32.ofNat (ln v1)) - 26) then gd (inr 0 8 (ln (fpt v0 0))) (gd (inr (v2 * 26) 8 (ln v1)) (nx (sF u v1 (va_cpy (u.2.1 (fpt v0 0)) (u.2.1 v1) (0 : Int32).toNatClampNeg (v2 * 26 : Int32).toNatClampNeg (8 : Int32).toNatClampNeg)) fun u1 => gd (inr 0 8 (ln (fpt v0 1))) (gd (inr ((v2 * 26) + 8) 8 (ln v1)) (nx (sF u1 v1 (va_cpy (u1.2.1 (fpt v0 1)) (u1.2.1 v1) (0 : Int32).toNatClampNeg ((v2 * 26) + 8 : Int32).toNatClampNeg (8 : Int32).toNatClampNeg)) fun u2 => gd (inr 0 8 (ln (fpt v0 2))) (gd (inr ((v2 * 26) + 16) 8 (ln v1)) (nx (sF u2 v1 (va_cpy (u2.2.1 (fpt v0 2)) (u2.2.1 v1) (0 : Int32).toNatClampNeg ((v2 * 26) + 16 : Int32).toNatClampNeg (8 : Int32).toNatClampNeg)) fun u3 => gd (inb (((v2 * 26) + 26) - 2) (ln v1)) (nx (sA u3 v1 (((v2 * 26) + 26) - 2) (gI u3 v0 3)) fun u4 => gd (inb (((v2 * 26) + 26) - 1) (ln v1)) (nx (sA u4 v1 (((v2 * 26) + 26) - 1) (gI u4 v0 4)) fun u5 => some u5)))))))) else some u))))
set_option maxRecDepth 20000 in
theorem sX1_write (v0 : Nat) (v1 : Nat) (v2 : Int32) (u : US) : Sim tV mX1_write 5 (fX1_write v0 v1 v2 u) 0 [some (.ref v0), some (.ref v1), some (.int v2), none] [] u := by
  unfold fX1_write
  refine r_gd (fun h0 => ?_)
  refine r_gd (fun h1 => ?_)
  refine r_iload_n dX1_write_0 rfl ?_
  refine r_bipush dX1_write_1 (v := 26) rfl ?_
  refine r_imul dX1_write_3 ?_
  refine r_istore_n dX1_write_4 (Nat.le_of_ble_eq_true rfl) (ls2 := [some (.ref v0), some (.ref v1), some (.int v2), some (.int (v2 * 26))]) rfl ?_
  refine r_iload_n dX1_write_5 rfl ?_
  refine r_if_lt dX1_write_6 (tgt := 18) rfl ?_ ?_
  · exact r_return rfl dX1_write_18
  · refine r_iload_n dX1_write_9 rfl ?_
    refine r_aload_n dX1_write_10 rfl ?_
    refine r_alen v1 h1 dX1_write_11 ?_
    refine r_bipush dX1_write_12 (v := 26) rfl ?_
    refine r_isub dX1_write_14 ?_
    refine r_icmp_le dX1_write_15 (tgt := 19) rfl ?_ ?_
    · refine r_aload_n dX1_write_19 rfl ?_
      refine r_get v0 0 flX1_9 (okO_mom h0) (v := .ref (fpt v0 0)) (slA_r (okO_mom h0) rfl rfl) dX1_write_20 ?_
      refine r_iconst dX1_write_23 (v := 0) rfl ?_
      refine r_aload_n dX1_write_24 rfl ?_
      refine r_iload_n dX1_write_25 rfl ?_
      refine r_bipush dX1_write_26 (v := 8) rfl ?_
      refine r_copy (fpt v0 0) v1 (okA_mom h0 0 rfl) h1 kmX1_32 kwCopy ktCopy knSystem (by decide) (Nat.le_of_ble_eq_true rfl) dX1_write_28 (r_nx (fun u1 => ?_))
      refine r_aload_n dX1_write_31 rfl ?_
      refine r_get v0 1 flX1_15 (okO_mom h0) (v := .ref (fpt v0 1)) (slA_r (okO_mom h0) rfl rfl) dX1_write_32 ?_
      refine r_iconst dX1_write_35 (v := 0) rfl ?_
      refine r_aload_n dX1_write_36 rfl ?_
      refine r_iload_n dX1_write_37 rfl ?_
      refine r_bipush dX1_write_38 (v := 8) rfl ?_
      refine r_iadd dX1_write_40 ?_
      refine r_bipush dX1_write_41 (v := 8) rfl ?_
      refine r_copy (fpt v0 1) v1 (okA_mom h0 1 rfl) h1 kmX1_32 kwCopy ktCopy knSystem (by decide) (Nat.le_of_ble_eq_true rfl) dX1_write_43 (r_nx (fun u2 => ?_))
      refine r_aload_n dX1_write_46 rfl ?_
      refine r_get v0 2 flX1_18 (okO_mom h0) (v := .ref (fpt v0 2)) (slA_r (okO_mom h0) rfl rfl) dX1_write_47 ?_
      refine r_iconst dX1_write_50 (v := 0) rfl ?_
      refine r_aload_n dX1_write_51 rfl ?_
      refine r_iload_n dX1_write_52 rfl ?_
      refine r_bipush dX1_write_53 (v := 16) rfl ?_
      refine r_iadd dX1_write_55 ?_
      refine r_bipush dX1_write_56 (v := 8) rfl ?_
      refine r_copy (fpt v0 2) v1 (okA_mom h0 2 rfl) h1 kmX1_32 kwCopy ktCopy knSystem (by decide) (Nat.le_of_ble_eq_true rfl) dX1_write_58 (r_nx (fun u3 => ?_))
      refine r_aload_n dX1_write_61 rfl ?_
      refine r_iload_n dX1_write_62 rfl ?_
      refine r_bipush dX1_write_63 (v := 26) rfl ?_
      refine r_iadd dX1_write_65 ?_
      refine r_iconst dX1_write_66 (v := 2) rfl ?_
      refine r_isub dX1_write_67 ?_
      refine r_aload_n dX1_write_68 rfl ?_
      refine r_get v0 3 flX1_21 (okO_mom h0) (v := .int (gI u3 v0 3)) (slA_i (okO_mom h0) rfl) dX1_write_69 ?_
      refine r_iast v1 h1 dX1_write_72 (r_nx (fun u4 => ?_))
      refine r_aload_n dX1_write_73 rfl ?_
      refine r_iload_n dX1_write_74 rfl ?_
      refine r_bipush dX1_write_75 (v := 26) rfl ?_
      refine r_iadd dX1_write_77 ?_
      refine r_iconst dX1_write_78 (v := 1) rfl ?_
      refine r_isub dX1_write_79 ?_
      refine r_aload_n dX1_write_80 rfl ?_
      refine r_get v0 4 flX1_25 (okO_mom h0) (v := .int (gI u4 v0 4)) (slA_i (okO_mom h0) rfl) dX1_write_81 ?_
      refine r_iast v1 h1 dX1_write_84 (r_nx (fun u5 => ?_))
      exact r_return rfl dX1_write_85
    · exact r_return rfl dX1_write_18
theorem okX1_write (v0 : Nat) (v1 : Nat) (v2 : Int32) (u : US) : ∀ r, fX1_write v0 v1 v2 u = some r → MetC mX1_write 5 [.ref v0, .ref v1, .int v2] u (tV r) :=
  met_of (by decide +kernel) (Nat.le_of_ble_eq_true rfl) rfl (sX1_write v0 v1 v2 u)
def fX4_push_36 (v1 : Nat) (u : US) : Option (US) :=
  oV (fX1_write v1 31 (gI u 7 3) u) fun u1 => nx (sI u1 7 3 ((gI u1 7 3) + 1)) fun u2 => some u2
set_option maxRecDepth 20000 in
theorem sX4_push_36 (v1 : Nat) (h1 : isMom v1 = true) (u : US) : Sim tV mX4_push 6 (fX4_push_36 v1 u) 36 [some (.ref 7), some (.ref v1)] [] u := by
  unfold fX4_push_36
  refine r_aload_n dX4_push_36 rfl ?_
  refine r_aload_n dX4_push_37 rfl ?_
  refine r_get 7 0 flX4_11 rfl (v := .ref 31) rfl dX4_push_38 ?_
  refine r_aload_n dX4_push_41 rfl ?_
  refine r_get 7 3 flX4_20 rfl (v := .int (gI u 7 3)) rfl dX4_push_42 ?_
  refine c_VV (As := [.ref 31, .int (gI u 7 3)]) kvX4_33 (okO_mom h1) (by decide) (okX1_write v1 31 (gI u 7 3) u) rfl (Nat.le_of_ble_eq_true rfl) rfl dX4_push_45 (fun u1 => ?_)
  refine r_aload_n dX4_push_48 rfl ?_
  refine r_dup dX4_push_49 rfl ?_
  refine r_get 7 3 flX4_20 rfl (v := .int (gI u1 7 3)) rfl dX4_push_50 ?_
  refine r_iconst dX4_push_53 (v := 1) rfl ?_
  refine r_iadd dX4_push_54 ?_
  refine r_put 7 3 fpX4_20 rfl rfl dX4_push_55 (r_nx (fun u2 => ?_))
  exact r_return rfl dX4_push_58
def fX4_push (v1 : Nat) (u : US) : Option (US) :=
  gd (isMom v1) ((if (gI u 7 3) < 15 then fX4_push_36 v1 u else nx (sI u 7 3 14) fun u1 => gd (inr 26 ((gI u1 7 3) * 26) 390) (gd (inr 0 ((gI u1 7 3) * 26) 390) (nx (sF u1 31 (va_cpy (u1.2.1 31) (u1.2.1 31) (26 : Int32).toNatClampNeg (0 : Int32).toNatClampNeg ((gI u1 7 3) * 26 : Int32).toNatClampNeg)) fun u2 => fX4_push_36 v1 u2))))
set_option maxRecDepth 20000 in
theorem sX4_push (v1 : Nat) (u : US) : Sim tV mX4_push 6 (fX4_push v1 u) 0 [some (.ref 7), some (.ref v1)] [] u := by
  unfold fX4_push
  refine r_gd (fun h1 => ?_)
  refine r_aload_n dX4_push_0 rfl ?_
  refine r_get 7 3 flX4_20 rfl (v := .int (gI u 7 3)) rfl dX4_push_1 ?_
  refine r_bipush dX4_push_4 (v := 15) rfl ?_
  refine r_icmp_lt dX4_push_6 (tgt := 36) rfl ?_ ?_
  · exact sX4_push_36 v1 h1 u
  · refine r_aload_n dX4_push_9 rfl ?_
    refine r_bipush dX4_push_10 (v := 14) rfl ?_
    refine r_put 7 3 fpX4_20 rfl rfl dX4_push_12 (r_nx (fun u1 => ?_))
    refine r_aload_n dX4_push_15 rfl ?_
    refine r_get 7 0 flX4_11 rfl (v := .ref 31) rfl dX4_push_16 ?_
    refine r_bipush dX4_push_19 (v := 26) rfl ?_
    refine r_aload_n dX4_push_21 rfl ?_
    refine r_get 7 0 flX4_11 rfl (v := .ref 31) rfl dX4_push_22 ?_
    refine r_iconst dX4_push_25 (v := 0) rfl ?_
    refine r_aload_n dX4_push_26 rfl ?_
    refine r_get 7 3 flX4_20 rfl (v := .int (gI u1 7 3)) rfl dX4_push_27 ?_
    refine r_bipush dX4_push_30 (v := 26) rfl ?_
    refine r_imul dX4_push_32 ?_
    refine r_copy 31 31 rfl rfl kmX4_27 kwCopy ktCopy knSystem (by decide) (Nat.le_of_ble_eq_true rfl) dX4_push_33 (r_nx (fun u2 => ?_))
    exact sX4_push_36 v1 h1 u2
theorem okX4_push (v1 : Nat) (u : US) : ∀ r, fX4_push v1 u = some r → MetC mX4_push 6 [.ref 7, .ref v1] u (tV r) :=
  met_of (by decide +kernel) (Nat.le_of_ble_eq_true rfl) rfl (sX4_push v1 u)
def fX11_remembered (v1 : Int32) (u : US) : Option (Int32 × US) :=
  (if v1 < 0 then some (v1, u) else oV (fX4_push 5 u) fun u1 => some (v1, u1))
set_option maxRecDepth 20000 in
theorem sX11_remembered (v1 : Int32) (u : US) : Sim tI mX11_remembered 7 (fX11_remembered v1 u) 0 [some (.ref 0), some (.int v1)] [] u := by
  unfold fX11_remembered
  refine r_iload_n dX11_remembered_0 rfl ?_
  refine r_if_lt dX11_remembered_1 (tgt := 15) rfl ?_ ?_
  · refine r_iload_n dX11_remembered_15 rfl ?_
    exact r_ireturn rfl dX11_remembered_16
  · refine r_aload_n dX11_remembered_4 rfl ?_
    refine r_get 0 6 flX11_48 rfl (v := .ref 7) rfl dX11_remembered_5 ?_
    refine r_aload_n dX11_remembered_8 rfl ?_
    refine r_get 0 4 flX11_39 rfl (v := .ref 5) rfl dX11_remembered_9 ?_
    refine c_VV (As := [.ref 5]) kvX11_251 rfl (by decide) (okX4_push 5 u) rfl (Nat.le_of_ble_eq_true rfl) rfl dX11_remembered_12 (fun u1 => ?_)
    refine r_iload_n dX11_remembered_15 rfl ?_
    exact r_ireturn rfl dX11_remembered_16
theorem okX11_remembered (v1 : Int32) (u : US) : ∀ r, fX11_remembered v1 u = some r → MetC mX11_remembered 7 [.ref 0, .int v1] u (tI r) :=
  met_of (by decide +kernel) (Nat.le_of_ble_eq_true rfl) rfl (sX11_remembered v1 u)
def fX11_ball (v1 : Int32) (u : US) : Option (Int32 × US) :=
  oV (fX1_copy 5 4 u) fun u1 => oB (fX11_breakPane v1 u1) fun r2 u2 => oB (fX11_remembered r2 u2) fun r3 u3 => some (r3, u3)
set_option maxRecDepth 20000 in
theorem sX11_ball (v1 : Int32) (u : US) : Sim tI mX11_ball 8 (fX11_ball v1 u) 0 [some (.ref 0), some (.int v1)] [] u := by
  unfold fX11_ball
  refine r_aload_n dX11_ball_0 rfl ?_
  refine r_get 0 4 flX11_39 rfl (v := .ref 5) rfl dX11_ball_1 ?_
  refine r_aload_n dX11_ball_4 rfl ?_
  refine r_get 0 3 flX11_35 rfl (v := .ref 4) rfl dX11_ball_5 ?_
  refine c_VV (As := [.ref 4]) kvX11_231 rfl (by decide) (okX1_copy 5 4 u) rfl (Nat.le_of_ble_eq_true rfl) rfl dX11_ball_8 (fun u1 => ?_)
  refine r_aload_n dX11_ball_11 rfl ?_
  refine r_aload_n dX11_ball_12 rfl ?_
  refine r_iload_n dX11_ball_13 rfl ?_
  refine c_VI (As := [.int v1]) kvX11_244 rfl (by decide) (okX11_breakPane v1 u1) rfl (Nat.le_of_ble_eq_true rfl) rfl dX11_ball_14 (fun r2 u2 => ?_)
  refine c_VI (As := [.int r2]) kvX11_238 rfl (by decide) (okX11_remembered r2 u2) rfl (Nat.le_of_ble_eq_true rfl) rfl dX11_ball_17 (fun r3 u3 => ?_)
  exact r_ireturn rfl dX11_ball_20
theorem okX11_ball (v1 : Int32) (u : US) : ∀ r, fX11_ball v1 u = some r → MetC mX11_ball 8 [.ref 0, .int v1] u (tI r) :=
  met_of (by decide +kernel) (Nat.le_of_ble_eq_true rfl) rfl (sX11_ball v1 u)
def fX11_commonDivisor_9 (v0 : Int64) (v2 : Int64) : Nat → Int64 → Int64 → Int32 → US → Option (Int64 × US)
  | 0, _, _, _, _ => none
  | n + 1, v4, v6, v8, u => (if (100 : Int32) ≤ v8 then some (v4, u) else (if (lg_cmp v6 0) = 0 then some (v4, u) else if v6 = 0 then none else fX11_commonDivisor_9 v0 v2 n v6 (v4 - v4 / v6 * v6) (v8 + 1) u))
set_option maxRecDepth 20000 in
theorem sX11_commonDivisor_9 (v0 : Int64) (v2 : Int64) : ∀ (n : Nat) (v4 : Int64) (v6 : Int64) (v8 : Int32) (u : US), Sim tJ mX11_commonDivisor 0 (fX11_commonDivisor_9 v0 v2 n v4 v6 v8 u) 9 [some (.long v0), none, some (.long v2), none, some (.long v4), none, some (.long v6), none, some (.int v8), none, none] [] u := by
  intro n
  induction n with
  | zero =>
    intro v4 v6 v8 u
    rw [fX11_commonDivisor_9.eq_1]
    exact r_none
  | succ n ih =>
    intro v4 v6 v8 u
    rw [fX11_commonDivisor_9.eq_2]
    refine r_iload dX11_commonDivisor_9 rfl ?_
    refine r_bipush dX11_commonDivisor_11 (v := 100) rfl ?_
    refine r_icmp_ge dX11_commonDivisor_13 (tgt := 44) rfl ?_ ?_
    · refine r_lload dX11_commonDivisor_44 rfl ?_
      exact r_lreturn rfl dX11_commonDivisor_46
    · refine r_lload dX11_commonDivisor_16 rfl ?_
      refine r_lconst dX11_commonDivisor_18 (v := 0) rfl ?_
      refine r_lcmp dX11_commonDivisor_19 ?_
      refine r_if_eq dX11_commonDivisor_20 (tgt := 44) rfl ?_ ?_
      · refine r_lload dX11_commonDivisor_44 rfl ?_
        exact r_lreturn rfl dX11_commonDivisor_46
      · refine r_lload dX11_commonDivisor_23 rfl ?_
        refine r_lload dX11_commonDivisor_25 rfl ?_
        refine r_lrem dX11_commonDivisor_27 ?_
        refine r_lstore dX11_commonDivisor_28 (Nat.le_of_ble_eq_true rfl) (ls2 := [some (.long v0), none, some (.long v2), none, some (.long v4), none, some (.long v6), none, some (.int v8), some (.long (v4 - v4 / v6 * v6)), none]) rfl ?_
        refine r_lload dX11_commonDivisor_30 rfl ?_
        refine r_lstore dX11_commonDivisor_32 (Nat.le_of_ble_eq_true rfl) (ls2 := [some (.long v0), none, some (.long v2), none, some (.long v6), none, some (.long v6), none, some (.int v8), some (.long (v4 - v4 / v6 * v6)), none]) rfl ?_
        refine r_lload dX11_commonDivisor_34 rfl ?_
        refine r_lstore dX11_commonDivisor_36 (Nat.le_of_ble_eq_true rfl) (ls2 := [some (.long v0), none, some (.long v2), none, some (.long v6), none, some (.long (v4 - v4 / v6 * v6)), none, some (.int v8), some (.long (v4 - v4 / v6 * v6)), none]) rfl ?_
        refine r_iinc dX11_commonDivisor_38 (Nat.le_of_ble_eq_true rfl) rfl (v := v8 + 1) rfl (ls2 := [some (.long v0), none, some (.long v2), none, some (.long v6), none, some (.long (v4 - v4 / v6 * v6)), none, some (.int (v8 + 1)), some (.long (v4 - v4 / v6 * v6)), none]) rfl ?_
        refine r_goto dX11_commonDivisor_41 (tgt := 9) rfl ?_
        refine r_mk [true, false, true, false, true, false, true, false, true, false, false] (ls2 := [some (.long v0), none, some (.long v2), none, some (.long v6), none, some (.long (v4 - v4 / v6 * v6)), none, some (.int (v8 + 1)), none, none]) rfl ?_
        exact ih v6 (v4 - v4 / v6 * v6) (v8 + 1) u
def fX11_commonDivisor (v0 : Int64) (v2 : Int64) (u : US) : Option (Int64 × US) :=
  fX11_commonDivisor_9 v0 v2 FU v0 v2 0 u
set_option maxRecDepth 20000 in
theorem sX11_commonDivisor (v0 : Int64) (v2 : Int64) (u : US) : Sim tJ mX11_commonDivisor 0 (fX11_commonDivisor v0 v2 u) 0 [some (.long v0), none, some (.long v2), none, none, none, none, none, none, none, none] [] u := by
  unfold fX11_commonDivisor
  refine r_lload_n dX11_commonDivisor_0 rfl ?_
  refine r_lstore dX11_commonDivisor_1 (Nat.le_of_ble_eq_true rfl) (ls2 := [some (.long v0), none, some (.long v2), none, some (.long v0), none, none, none, none, none, none]) rfl ?_
  refine r_lload_n dX11_commonDivisor_3 rfl ?_
  refine r_lstore dX11_commonDivisor_4 (Nat.le_of_ble_eq_true rfl) (ls2 := [some (.long v0), none, some (.long v2), none, some (.long v0), none, some (.long v2), none, none, none, none]) rfl ?_
  refine r_iconst dX11_commonDivisor_6 (v := 0) rfl ?_
  refine r_istore dX11_commonDivisor_7 (Nat.le_of_ble_eq_true rfl) (ls2 := [some (.long v0), none, some (.long v2), none, some (.long v0), none, some (.long v2), none, some (.int 0), none, none]) rfl ?_
  exact sX11_commonDivisor_9 v0 v2 FU v0 v2 0 u
theorem okX11_commonDivisor (v0 : Int64) (v2 : Int64) (u : US) : ∀ r, fX11_commonDivisor v0 v2 u = some r → MetC mX11_commonDivisor 0 [.long v0, .long v2] u (tJ r) :=
  met_of (by decide +kernel) (Nat.le_of_ble_eq_true rfl) rfl (sX11_commonDivisor v0 v2 u)
def fX11_tellFraction (v1 : Int64) (v3 : Int64) (u : US) : Option (US) :=
  oB (fX11_commonDivisor v1 v3 u) fun r1 u1 => (if (lg_cmp r1 0) ≤ 0 then some u1 else if r1 = 0 then none else if r1 = 0 then none else oV (fX2_tellTwo (v1 / r1) (v3 / r1) u1) fun u2 => some u2)
set_option maxRecDepth 20000 in
theorem sX11_tellFraction (v1 : Int64) (v3 : Int64) (u : US) : Sim tV mX11_tellFraction 2 (fX11_tellFraction v1 v3 u) 0 [some (.ref 0), some (.long v1), none, some (.long v3), none, none, none] [] u := by
  unfold fX11_tellFraction
  refine r_lload_n dX11_tellFraction_0 rfl ?_
  refine r_lload_n dX11_tellFraction_1 rfl ?_
  refine c_SJ (As := [.long v1, .long v3]) ksX11_439 (by decide) (okX11_commonDivisor v1 v3 u) rfl (Nat.le_of_ble_eq_true rfl) rfl dX11_tellFraction_2 (fun r1 u1 => ?_)
  refine r_lstore dX11_tellFraction_5 (Nat.le_of_ble_eq_true rfl) (ls2 := [some (.ref 0), some (.long v1), none, some (.long v3), none, some (.long r1), none]) rfl ?_
  refine r_lload dX11_tellFraction_7 rfl ?_
  refine r_lconst dX11_tellFraction_9 (v := 0) rfl ?_
  refine r_lcmp dX11_tellFraction_10 ?_
  refine r_if_le dX11_tellFraction_11 (tgt := 29) rfl ?_ ?_
  · exact r_return rfl dX11_tellFraction_29
  · refine r_aload_n dX11_tellFraction_14 rfl ?_
    refine r_get 0 7 flX11_55 rfl (v := .ref 8) rfl dX11_tellFraction_15 ?_
    refine r_lload_n dX11_tellFraction_18 rfl ?_
    refine r_lload dX11_tellFraction_19 rfl ?_
    refine r_ldiv dX11_tellFraction_21 ?_
    refine r_lload_n dX11_tellFraction_22 rfl ?_
    refine r_lload dX11_tellFraction_23 rfl ?_
    refine r_ldiv dX11_tellFraction_25 ?_
    refine c_VV (As := [.long (v1 / r1), .long (v3 / r1)]) kvX11_298 rfl (by decide) (okX2_tellTwo (v1 / r1) (v3 / r1) u1) rfl (Nat.le_of_ble_eq_true rfl) rfl dX11_tellFraction_26 (fun u2 => ?_)
    exact r_return rfl dX11_tellFraction_29
theorem okX11_tellFraction (v1 : Int64) (v3 : Int64) (u : US) : ∀ r, fX11_tellFraction v1 v3 u = some r → MetC mX11_tellFraction 2 [.ref 0, .long v1, .long v3] u (tV r) :=
  met_of (by decide +kernel) (Nat.le_of_ble_eq_true rfl) rfl (sX11_tellFraction v1 v3 u)
def fX8_isThing (v1 : Int32) (u : US) : Option (Int32 × US) :=
  (if v1 < 0 then some (0, u) else (if (gI u 3 2) ≤ v1 then some (0, u) else some (1, u)))
set_option maxRecDepth 20000 in
theorem sX8_isThing (v1 : Int32) (u : US) : Sim tI mX8_isThing 0 (fX8_isThing v1 u) 0 [some (.ref 3), some (.int v1)] [] u := by
  unfold fX8_isThing
  refine r_iload_n dX8_isThing_0 rfl ?_
  refine r_if_lt dX8_isThing_1 (tgt := 16) rfl ?_ ?_
  · refine r_iconst dX8_isThing_16 (v := 0) rfl ?_
    exact r_zreturn0 rfl dX8_isThing_17
  · refine r_iload_n dX8_isThing_4 rfl ?_
    refine r_aload_n dX8_isThing_5 rfl ?_
    refine r_get 3 2 flX8_44 rfl (v := .int (gI u 3 2)) rfl dX8_isThing_6 ?_
    refine r_icmp_ge dX8_isThing_9 (tgt := 16) rfl ?_ ?_
    · refine r_iconst dX8_isThing_16 (v := 0) rfl ?_
      exact r_zreturn0 rfl dX8_isThing_17
    · refine r_iconst dX8_isThing_12 (v := 1) rfl ?_
      refine r_goto dX8_isThing_13 (tgt := 17) rfl ?_
      exact r_zreturn1 rfl dX8_isThing_17
theorem okX8_isThing (v1 : Int32) (u : US) : ∀ r, fX8_isThing v1 u = some r → MetC mX8_isThing 0 [.ref 3, .int v1] u (tI r) :=
  met_of (by decide +kernel) (Nat.le_of_ble_eq_true rfl) rfl (sX8_isThing v1 u)
def fX8_sees (v1 : Nat) (v2 : Int32) (v3 : Int32) (u : US) : Option (Int32 × US) :=
  gd (isMom v1) (oB (fX8_seenOf v1 v2 (1 <<< (v3 &&& 31)) u) fun r1 u1 => (if r1 = 0 then some (0, u1) else some (1, u1)))
set_option maxRecDepth 20000 in
theorem sX8_sees (v1 : Nat) (v2 : Int32) (v3 : Int32) (u : US) : Sim tI mX8_sees 8 (fX8_sees v1 v2 v3 u) 0 [some (.ref 3), some (.ref v1), some (.int v2), some (.int v3)] [] u := by
  unfold fX8_sees
  refine r_gd (fun h1 => ?_)
  refine r_aload_n dX8_sees_0 rfl ?_
  refine r_aload_n dX8_sees_1 rfl ?_
  refine r_iload_n dX8_sees_2 rfl ?_
  refine r_iconst dX8_sees_3 (v := 1) rfl ?_
  refine r_iload_n dX8_sees_4 rfl ?_
  refine r_ishl dX8_sees_5 ?_
  refine c_VI (As := [.ref v1, .int v2, .int (1 <<< (v3 &&& 31))]) kvX8_161 rfl (by decide) (okX8_seenOf v1 v2 (1 <<< (v3 &&& 31)) u) rfl (Nat.le_of_ble_eq_true rfl) rfl dX8_sees_6 (fun r1 u1 => ?_)
  refine r_if_eq dX8_sees_9 (tgt := 16) rfl ?_ ?_
  · refine r_iconst dX8_sees_16 (v := 0) rfl ?_
    exact r_zreturn0 rfl dX8_sees_17
  · refine r_iconst dX8_sees_12 (v := 1) rfl ?_
    refine r_goto dX8_sees_13 (tgt := 17) rfl ?_
    exact r_zreturn1 rfl dX8_sees_17
theorem okX8_sees (v1 : Nat) (v2 : Int32) (v3 : Int32) (u : US) : ∀ r, fX8_sees v1 v2 v3 u = some r → MetC mX8_sees 8 [.ref 3, .ref v1, .int v2, .int v3] u (tI r) :=
  met_of (by decide +kernel) (Nat.le_of_ble_eq_true rfl) rfl (sX8_sees v1 v2 v3 u)
def fX11_balls_114 (v1 : Int32) (v2 : Int32) (v3 : Int32) : Nat → Int32 → Int64 → Int64 → Int32 → US → Option (Int32 × US)
  | 0, _, _, _, _, _ => none
  | n + 1, v5, v6, v8, v10, u => (if v5 ≤ v10 then oV (fX11_tellFraction (v6 - v8) v6 u) fun u1 => some (0, u1) else fX11_balls_114 v1 v2 v3 n v5 (v6 * 10) (v8 * ((10 - v3 : Int32).toInt64)) (v10 + 1) u)
set_option maxRecDepth 20000 in
theorem sX11_balls_114 (v1 : Int32) (v2 : Int32) (v3 : Int32) : ∀ (n : Nat) (v5 : Int32) (v6 : Int64) (v8 : Int64) (v10 : Int32) (u : US), Sim tI mX11_balls 9 (fX11_balls_114 v1 v2 v3 n v5 v6 v8 v10 u) 114 [some (.ref 0), some (.int v1), some (.int v2), some (.int v3), none, some (.int v5), some (.long v6), none, some (.long v8), none, some (.int v10)] [] u := by
  intro n
  induction n with
  | zero =>
    intro v5 v6 v8 v10 u
    rw [fX11_balls_114.eq_1]
    exact r_none
  | succ n ih =>
    intro v5 v6 v8 v10 u
    rw [fX11_balls_114.eq_2]
    refine r_iload dX11_balls_114 rfl ?_
    refine r_iload dX11_balls_116 rfl ?_
    refine r_icmp_ge dX11_balls_118 (tgt := 145) rfl ?_ ?_
    · refine r_aload_n dX11_balls_145 rfl ?_
      refine r_lload dX11_balls_146 rfl ?_
      refine r_lload dX11_balls_148 rfl ?_
      refine r_lsub dX11_balls_150 ?_
      refine r_lload dX11_balls_151 rfl ?_
      refine c_VV (As := [.long (v6 - v8), .long v6]) kvX11_436 rfl (by decide) (okX11_tellFraction (v6 - v8) v6 u) rfl (Nat.le_of_ble_eq_true rfl) rfl dX11_balls_153 (fun u1 => ?_)
      refine r_iconst dX11_balls_156 (v := 0) rfl ?_
      exact r_ireturn rfl dX11_balls_157
    · refine r_lload dX11_balls_121 rfl ?_
      refine r_ldc2 dX11_balls_123 kJX11_434 ?_
      refine r_lmul dX11_balls_126 ?_
      refine r_lstore dX11_balls_127 (Nat.le_of_ble_eq_true rfl) (ls2 := [some (.ref 0), some (.int v1), some (.int v2), some (.int v3), none, some (.int v5), some (.long (v6 * 10)), none, some (.long v8), none, some (.int v10)]) rfl ?_
      refine r_lload dX11_balls_129 rfl ?_
      refine r_bipush dX11_balls_131 (v := 10) rfl ?_
      refine r_iload_n dX11_balls_133 rfl ?_
      refine r_isub dX11_balls_134 ?_
      refine r_i2l dX11_balls_135 ?_
      refine r_lmul dX11_balls_136 ?_
      refine r_lstore dX11_balls_137 (Nat.le_of_ble_eq_true rfl) (ls2 := [some (.ref 0), some (.int v1), some (.int v2), some (.int v3), none, some (.int v5), some (.long (v6 * 10)), none, some (.long (v8 * ((10 - v3 : Int32).toInt64))), none, some (.int v10)]) rfl ?_
      refine r_iinc dX11_balls_139 (Nat.le_of_ble_eq_true rfl) rfl (v := v10 + 1) rfl (ls2 := [some (.ref 0), some (.int v1), some (.int v2), some (.int v3), none, some (.int v5), some (.long (v6 * 10)), none, some (.long (v8 * ((10 - v3 : Int32).toInt64))), none, some (.int (v10 + 1))]) rfl ?_
      refine r_goto dX11_balls_142 (tgt := 114) rfl ?_
      exact ih v5 (v6 * 10) (v8 * ((10 - v3 : Int32).toInt64)) (v10 + 1) u
def fX11_balls_103 (v1 : Int32) (v2 : Int32) (v3 : Int32) (s0 : Int32) (u : US) : Option (Int32 × US) :=
  fX11_balls_114 v1 v2 v3 FU s0 1 1 0 u
set_option maxRecDepth 20000 in
theorem sX11_balls_103 (v1 : Int32) (v2 : Int32) (v3 : Int32) (s0 : Int32) (u : US) : Sim tI mX11_balls 9 (fX11_balls_103 v1 v2 v3 s0 u) 103 [some (.ref 0), some (.int v1), some (.int v2), some (.int v3), none, none, none, none, none, none, none] [.int s0] u := by
  unfold fX11_balls_103
  refine r_istore dX11_balls_103 (Nat.le_of_ble_eq_true rfl) (ls2 := [some (.ref 0), some (.int v1), some (.int v2), some (.int v3), none, some (.int s0), none, none, none, none, none]) rfl ?_
  refine r_lconst dX11_balls_105 (v := 1) rfl ?_
  refine r_lstore dX11_balls_106 (Nat.le_of_ble_eq_true rfl) (ls2 := [some (.ref 0), some (.int v1), some (.int v2), some (.int v3), none, some (.int s0), some (.long 1), none, none, none, none]) rfl ?_
  refine r_lconst dX11_balls_108 (v := 1) rfl ?_
  refine r_lstore dX11_balls_109 (Nat.le_of_ble_eq_true rfl) (ls2 := [some (.ref 0), some (.int v1), some (.int v2), some (.int v3), none, some (.int s0), some (.long 1), none, some (.long 1), none, none]) rfl ?_
  refine r_iconst dX11_balls_111 (v := 0) rfl ?_
  refine r_istore dX11_balls_112 (Nat.le_of_ble_eq_true rfl) (ls2 := [some (.ref 0), some (.int v1), some (.int v2), some (.int v3), none, some (.int s0), some (.long 1), none, some (.long 1), none, some (.int 0)]) rfl ?_
  exact sX11_balls_114 v1 v2 v3 FU s0 1 1 0 u
def fX11_balls (v1 : Int32) (v2 : Int32) (v3 : Int32) (u : US) : Option (Int32 × US) :=
  oB (fX8_isRoom v1 u) fun r1 u1 => (if r1 = 0 then some ((-1), u1) else oB (fX8_isThing v2 u1) fun r2 u2 => (if r2 = 0 then some ((-1), u2) else (if v3 < 0 then some ((-1), u2) else (if v3 ≤ 10 then oB (fX8_sees 4 v1 v2 u2) fun r3 u3 => (if r3 = 0 then oB (fX8_near 4 v1 u3) fun r4 u4 => oB (fX11_has r4 v2 u4) fun r5 u5 => (if r5 = 0 then fX11_balls_103 v1 v2 v3 0 u5 else oB (fX8_panesIn 4 v1 u5) fun r6 u6 => oB (fJ6_bitCount_0f7a4 r6 u6) fun r7 u7 => fX11_balls_103 v1 v2 v3 r7 u7) else oV (fX2_tellTwo 1 1 u3) fun u8 => some (0, u8)) else some ((-1), u2)))))
set_option maxRecDepth 20000 in
theorem sX11_balls (v1 : Int32) (v2 : Int32) (v3 : Int32) (u : US) : Sim tI mX11_balls 9 (fX11_balls v1 v2 v3 u) 0 [some (.ref 0), some (.int v1), some (.int v2), some (.int v3), none, none, none, none, none, none, none] [] u := by
  unfold fX11_balls
  refine r_aload_n dX11_balls_0 rfl ?_
  refine r_get 0 2 flX11_28 rfl (v := .ref 3) rfl dX11_balls_1 ?_
  refine r_iload_n dX11_balls_4 rfl ?_
  refine c_VI (As := [.int v1]) kvX11_209 rfl (by decide) (okX8_isRoom v1 u) rfl (Nat.le_of_ble_eq_true rfl) rfl dX11_balls_5 (fun r1 u1 => ?_)
  refine r_if_eq dX11_balls_8 (tgt := 32) rfl ?_ ?_
  · refine r_iconst dX11_balls_32 (v := -1) rfl ?_
    exact r_ireturn rfl dX11_balls_33
  · refine r_aload_n dX11_balls_11 rfl ?_
    refine r_get 0 2 flX11_28 rfl (v := .ref 3) rfl dX11_balls_12 ?_
    refine r_iload_n dX11_balls_15 rfl ?_
    refine c_VI (As := [.int v2]) kvX11_164 rfl (by decide) (okX8_isThing v2 u1) rfl (Nat.le_of_ble_eq_true rfl) rfl dX11_balls_16 (fun r2 u2 => ?_)
    refine r_if_eq dX11_balls_19 (tgt := 32) rfl ?_ ?_
    · refine r_iconst dX11_balls_32 (v := -1) rfl ?_
      exact r_ireturn rfl dX11_balls_33
    · refine r_iload_n dX11_balls_22 rfl ?_
      refine r_if_lt dX11_balls_23 (tgt := 32) rfl ?_ ?_
      · refine r_iconst dX11_balls_32 (v := -1) rfl ?_
        exact r_ireturn rfl dX11_balls_33
      · refine r_iload_n dX11_balls_26 rfl ?_
        refine r_bipush dX11_balls_27 (v := 10) rfl ?_
        refine r_icmp_le dX11_balls_29 (tgt := 34) rfl ?_ ?_
        · refine r_aload_n dX11_balls_34 rfl ?_
          refine r_get 0 2 flX11_28 rfl (v := .ref 3) rfl dX11_balls_35 ?_
          refine r_aload_n dX11_balls_38 rfl ?_
          refine r_get 0 3 flX11_35 rfl (v := .ref 4) rfl dX11_balls_39 ?_
          refine r_iload_n dX11_balls_42 rfl ?_
          refine r_iload_n dX11_balls_43 rfl ?_
          refine c_VI (As := [.ref 4, .int v1, .int v2]) kvX11_326 rfl (by decide) (okX8_sees 4 v1 v2 u2) rfl (Nat.le_of_ble_eq_true rfl) rfl dX11_balls_44 (fun r3 u3 => ?_)
          refine r_if_eq dX11_balls_47 (tgt := 61) rfl ?_ ?_
          · refine r_aload_n dX11_balls_61 rfl ?_
            refine r_get 0 2 flX11_28 rfl (v := .ref 3) rfl dX11_balls_62 ?_
            refine r_aload_n dX11_balls_65 rfl ?_
            refine r_get 0 3 flX11_35 rfl (v := .ref 4) rfl dX11_balls_66 ?_
            refine r_iload_n dX11_balls_69 rfl ?_
            refine c_VI (As := [.ref 4, .int v1]) kvX11_224 rfl (by decide) (okX8_near 4 v1 u3) rfl (Nat.le_of_ble_eq_true rfl) rfl dX11_balls_70 (fun r4 u4 => ?_)
            refine r_iload_n dX11_balls_73 rfl ?_
            refine c_SI (As := [.int r4, .int v2]) ksX11_363 (by decide) (okX11_has r4 v2 u4) rfl (Nat.le_of_ble_eq_true rfl) rfl dX11_balls_74 (fun r5 u5 => ?_)
            refine r_istore dX11_balls_77 (Nat.le_of_ble_eq_true rfl) (ls2 := [some (.ref 0), some (.int v1), some (.int v2), some (.int v3), some (.int r5), none, none, none, none, none, none]) rfl ?_
            refine r_iload dX11_balls_79 rfl ?_
            refine r_if_eq dX11_balls_81 (tgt := 102) rfl ?_ ?_
            · refine r_iconst dX11_balls_102 (v := 0) rfl ?_
              refine r_mk [true, true, true, true, false, false, false, false, false, false, false] (ls2 := [some (.ref 0), some (.int v1), some (.int v2), some (.int v3), none, none, none, none, none, none, none]) rfl ?_
              exact sX11_balls_103 v1 v2 v3 0 u5
            · refine r_aload_n dX11_balls_84 rfl ?_
              refine r_get 0 2 flX11_28 rfl (v := .ref 3) rfl dX11_balls_85 ?_
              refine r_aload_n dX11_balls_88 rfl ?_
              refine r_get 0 3 flX11_35 rfl (v := .ref 4) rfl dX11_balls_89 ?_
              refine r_iload_n dX11_balls_92 rfl ?_
              refine c_VI (As := [.ref 4, .int v1]) kvX11_218 rfl (by decide) (okX8_panesIn 4 v1 u5) rfl (Nat.le_of_ble_eq_true rfl) rfl dX11_balls_93 (fun r6 u6 => ?_)
              refine c_SI (As := [.int r6]) ksX11_254 (by decide) (okJ6_bitCount_0f7a4 r6 u6) rfl (Nat.le_of_ble_eq_true rfl) rfl dX11_balls_96 (fun r7 u7 => ?_)
              refine r_goto dX11_balls_99 (tgt := 103) rfl ?_
              refine r_mk [true, true, true, true, false, false, false, false, false, false, false] (ls2 := [some (.ref 0), some (.int v1), some (.int v2), some (.int v3), none, none, none, none, none, none, none]) rfl ?_
              exact sX11_balls_103 v1 v2 v3 r7 u7
          · refine r_aload_n dX11_balls_50 rfl ?_
            refine r_get 0 7 flX11_55 rfl (v := .ref 8) rfl dX11_balls_51 ?_
            refine r_lconst dX11_balls_54 (v := 1) rfl ?_
            refine r_lconst dX11_balls_55 (v := 1) rfl ?_
            refine c_VV (As := [.long 1, .long 1]) kvX11_298 rfl (by decide) (okX2_tellTwo 1 1 u3) rfl (Nat.le_of_ble_eq_true rfl) rfl dX11_balls_56 (fun u8 => ?_)
            refine r_iconst dX11_balls_59 (v := 0) rfl ?_
            exact r_ireturn rfl dX11_balls_60
        · refine r_iconst dX11_balls_32 (v := -1) rfl ?_
          exact r_ireturn rfl dX11_balls_33
theorem okX11_balls (v1 : Int32) (v2 : Int32) (v3 : Int32) (u : US) : ∀ r, fX11_balls v1 v2 v3 u = some r → MetC mX11_balls 9 [.ref 0, .int v1, .int v2, .int v3] u (tI r) :=
  met_of (by decide +kernel) (Nat.le_of_ble_eq_true rfl) rfl (sX11_balls v1 v2 v3 u)
def fX11_best_47 (v1 : Int32) : Nat → Int32 → Int32 → Int32 → Int32 → US → Option (Int32 × US)
  | 0, _, _, _, _, _ => none
  | n + 1, v2, v3, v4, v5, u => (if (gI u 3 3) ≤ v5 then oB (fX3_union v2 u) fun r1 u1 => oB (fJ6_bitCount_0f7a4 r1 u1) fun r2 u2 => oV (fX2_tellTwo ((v4 : Int32).toInt64) ((r2 : Int32).toInt64) u2) fun u3 => some (v3, u3) else oB (fX3_union (v2 &&& ((1 <<< (v5 &&& 31)) ^^^ (-1))) u) fun r4 u4 => oB (fJ6_bitCount_0f7a4 r4 u4) fun r5 u5 => oB (fX11_has v2 v5 u5) fun r6 u6 => (if r6 = 0 then fX11_best_47 v1 n v2 v3 v4 (v5 + 1) u6 else (if v4 ≤ r5 then fX11_best_47 v1 n v2 v3 v4 (v5 + 1) u6 else fX11_best_47 v1 n v2 v5 r5 (v5 + 1) u6)))
set_option maxRecDepth 20000 in
theorem sX11_best_47 (v1 : Int32) : ∀ (n : Nat) (v2 : Int32) (v3 : Int32) (v4 : Int32) (v5 : Int32) (u : US), Sim tI mX11_best 8 (fX11_best_47 v1 n v2 v3 v4 v5 u) 47 [some (.ref 0), some (.int v1), some (.int v2), some (.int v3), some (.int v4), some (.int v5), none] [] u := by
  intro n
  induction n with
  | zero =>
    intro v2 v3 v4 v5 u
    rw [fX11_best_47.eq_1]
    exact r_none
  | succ n ih =>
    intro v2 v3 v4 v5 u
    rw [fX11_best_47.eq_2]
    refine r_iload dX11_best_47 rfl ?_
    refine r_aload_n dX11_best_49 rfl ?_
    refine r_get 0 2 flX11_28 rfl (v := .ref 3) rfl dX11_best_50 ?_
    refine r_get 3 3 flX11_357 rfl (v := .int (gI u 3 3)) rfl dX11_best_53 ?_
    refine r_icmp_ge dX11_best_56 (tgt := 108) rfl ?_ ?_
    · refine r_aload_n dX11_best_108 rfl ?_
      refine r_get 0 7 flX11_55 rfl (v := .ref 8) rfl dX11_best_109 ?_
      refine r_iload dX11_best_112 rfl ?_
      refine r_i2l dX11_best_114 ?_
      refine r_aload_n dX11_best_115 rfl ?_
      refine r_get 0 8 flX11_62 rfl (v := .ref 9) rfl dX11_best_116 ?_
      refine r_iload_n dX11_best_119 rfl ?_
      refine c_VI (As := [.int v2]) kvX11_360 rfl (by decide) (okX3_union v2 u) rfl (Nat.le_of_ble_eq_true rfl) rfl dX11_best_120 (fun r1 u1 => ?_)
      refine c_SI (As := [.int r1]) ksX11_254 (by decide) (okJ6_bitCount_0f7a4 r1 u1) rfl (Nat.le_of_ble_eq_true rfl) rfl dX11_best_123 (fun r2 u2 => ?_)
      refine r_i2l dX11_best_126 ?_
      refine c_VV (As := [.long ((v4 : Int32).toInt64), .long ((r2 : Int32).toInt64)]) kvX11_298 rfl (by decide) (okX2_tellTwo ((v4 : Int32).toInt64) ((r2 : Int32).toInt64) u2) rfl (Nat.le_of_ble_eq_true rfl) rfl dX11_best_127 (fun u3 => ?_)
      refine r_iload_n dX11_best_130 rfl ?_
      exact r_ireturn rfl dX11_best_131
    · refine r_aload_n dX11_best_59 rfl ?_
      refine r_get 0 8 flX11_62 rfl (v := .ref 9) rfl dX11_best_60 ?_
      refine r_iload_n dX11_best_63 rfl ?_
      refine r_iconst dX11_best_64 (v := 1) rfl ?_
      refine r_iload dX11_best_65 rfl ?_
      refine r_ishl dX11_best_67 ?_
      refine r_iconst dX11_best_68 (v := -1) rfl ?_
      refine r_ixor dX11_best_69 ?_
      refine r_iand dX11_best_70 ?_
      refine c_VI (As := [.int (v2 &&& ((1 <<< (v5 &&& 31)) ^^^ (-1)))]) kvX11_360 rfl (by decide) (okX3_union (v2 &&& ((1 <<< (v5 &&& 31)) ^^^ (-1))) u) rfl (Nat.le_of_ble_eq_true rfl) rfl dX11_best_71 (fun r4 u4 => ?_)
      refine c_SI (As := [.int r4]) ksX11_254 (by decide) (okJ6_bitCount_0f7a4 r4 u4) rfl (Nat.le_of_ble_eq_true rfl) rfl dX11_best_74 (fun r5 u5 => ?_)
      refine r_istore dX11_best_77 (Nat.le_of_ble_eq_true rfl) (ls2 := [some (.ref 0), some (.int v1), some (.int v2), some (.int v3), some (.int v4), some (.int v5), some (.int r5)]) rfl ?_
      refine r_iload_n dX11_best_79 rfl ?_
      refine r_iload dX11_best_80 rfl ?_
      refine c_SI (As := [.int v2, .int v5]) ksX11_363 (by decide) (okX11_has v2 v5 u5) rfl (Nat.le_of_ble_eq_true rfl) rfl dX11_best_82 (fun r6 u6 => ?_)
      refine r_if_eq dX11_best_85 (tgt := 102) rfl ?_ ?_
      · refine r_iinc dX11_best_102 (Nat.le_of_ble_eq_true rfl) rfl (v := v5 + 1) rfl (ls2 := [some (.ref 0), some (.int v1), some (.int v2), some (.int v3), some (.int v4), some (.int (v5 + 1)), some (.int r5)]) rfl ?_
        refine r_goto dX11_best_105 (tgt := 47) rfl ?_
        refine r_mk [true, true, true, true, true, true, false] (ls2 := [some (.ref 0), some (.int v1), some (.int v2), some (.int v3), some (.int v4), some (.int (v5 + 1)), none]) rfl ?_
        exact ih v2 v3 v4 (v5 + 1) u6
      · refine r_iload dX11_best_88 rfl ?_
        refine r_iload dX11_best_90 rfl ?_
        refine r_icmp_ge dX11_best_92 (tgt := 102) rfl ?_ ?_
        · refine r_iinc dX11_best_102 (Nat.le_of_ble_eq_true rfl) rfl (v := v5 + 1) rfl (ls2 := [some (.ref 0), some (.int v1), some (.int v2), some (.int v3), some (.int v4), some (.int (v5 + 1)), some (.int r5)]) rfl ?_
          refine r_goto dX11_best_105 (tgt := 47) rfl ?_
          refine r_mk [true, true, true, true, true, true, false] (ls2 := [some (.ref 0), some (.int v1), some (.int v2), some (.int v3), some (.int v4), some (.int (v5 + 1)), none]) rfl ?_
          exact ih v2 v3 v4 (v5 + 1) u6
        · refine r_iload dX11_best_95 rfl ?_
          refine r_istore_n dX11_best_97 (Nat.le_of_ble_eq_true rfl) (ls2 := [some (.ref 0), some (.int v1), some (.int v2), some (.int v5), some (.int v4), some (.int v5), some (.int r5)]) rfl ?_
          refine r_iload dX11_best_98 rfl ?_
          refine r_istore dX11_best_100 (Nat.le_of_ble_eq_true rfl) (ls2 := [some (.ref 0), some (.int v1), some (.int v2), some (.int v5), some (.int r5), some (.int v5), some (.int r5)]) rfl ?_
          refine r_iinc dX11_best_102 (Nat.le_of_ble_eq_true rfl) rfl (v := v5 + 1) rfl (ls2 := [some (.ref 0), some (.int v1), some (.int v2), some (.int v5), some (.int r5), some (.int (v5 + 1)), some (.int r5)]) rfl ?_
          refine r_goto dX11_best_105 (tgt := 47) rfl ?_
          refine r_mk [true, true, true, true, true, true, false] (ls2 := [some (.ref 0), some (.int v1), some (.int v2), some (.int v5), some (.int r5), some (.int (v5 + 1)), none]) rfl ?_
          exact ih v2 v5 r5 (v5 + 1) u6
def fX11_best (v1 : Int32) (u : US) : Option (Int32 × US) :=
  oB (fX8_isRoom v1 u) fun r1 u1 => (if r1 = 0 then some ((-1), u1) else oB (fX8_panesIn 4 v1 u1) fun r2 u2 => (if r2 = 0 then some ((-2), u2) else oV (fX11_partByPanes v1 u2) fun u3 => fX11_best_47 v1 FU r2 (-1) 9 0 u3))
set_option maxRecDepth 20000 in
theorem sX11_best (v1 : Int32) (u : US) : Sim tI mX11_best 8 (fX11_best v1 u) 0 [some (.ref 0), some (.int v1), none, none, none, none, none] [] u := by
  unfold fX11_best
  refine r_aload_n dX11_best_0 rfl ?_
  refine r_get 0 2 flX11_28 rfl (v := .ref 3) rfl dX11_best_1 ?_
  refine r_iload_n dX11_best_4 rfl ?_
  refine c_VI (As := [.int v1]) kvX11_209 rfl (by decide) (okX8_isRoom v1 u) rfl (Nat.le_of_ble_eq_true rfl) rfl dX11_best_5 (fun r1 u1 => ?_)
  refine r_if_ne dX11_best_8 (tgt := 13) rfl ?_ ?_
  · refine r_aload_n dX11_best_13 rfl ?_
    refine r_get 0 2 flX11_28 rfl (v := .ref 3) rfl dX11_best_14 ?_
    refine r_aload_n dX11_best_17 rfl ?_
    refine r_get 0 3 flX11_35 rfl (v := .ref 4) rfl dX11_best_18 ?_
    refine r_iload_n dX11_best_21 rfl ?_
    refine c_VI (As := [.ref 4, .int v1]) kvX11_218 rfl (by decide) (okX8_panesIn 4 v1 u1) rfl (Nat.le_of_ble_eq_true rfl) rfl dX11_best_22 (fun r2 u2 => ?_)
    refine r_istore_n dX11_best_25 (Nat.le_of_ble_eq_true rfl) (ls2 := [some (.ref 0), some (.int v1), some (.int r2), none, none, none, none]) rfl ?_
    refine r_iload_n dX11_best_26 rfl ?_
    refine r_if_ne dX11_best_27 (tgt := 33) rfl ?_ ?_
    · refine r_aload_n dX11_best_33 rfl ?_
      refine r_iload_n dX11_best_34 rfl ?_
      refine c_VV (As := [.int v1]) kvX11_354 rfl (by decide) (okX11_partByPanes v1 u2) rfl (Nat.le_of_ble_eq_true rfl) rfl dX11_best_35 (fun u3 => ?_)
      refine r_iconst dX11_best_38 (v := -1) rfl ?_
      refine r_istore_n dX11_best_39 (Nat.le_of_ble_eq_true rfl) (ls2 := [some (.ref 0), some (.int v1), some (.int r2), some (.int (-1)), none, none, none]) rfl ?_
      refine r_bipush dX11_best_40 (v := 9) rfl ?_
      refine r_istore dX11_best_42 (Nat.le_of_ble_eq_true rfl) (ls2 := [some (.ref 0), some (.int v1), some (.int r2), some (.int (-1)), some (.int 9), none, none]) rfl ?_
      refine r_iconst dX11_best_44 (v := 0) rfl ?_
      refine r_istore dX11_best_45 (Nat.le_of_ble_eq_true rfl) (ls2 := [some (.ref 0), some (.int v1), some (.int r2), some (.int (-1)), some (.int 9), some (.int 0), none]) rfl ?_
      exact sX11_best_47 v1 FU r2 (-1) 9 0 u3
    · refine r_bipush dX11_best_30 (v := -2) rfl ?_
      exact r_ireturn rfl dX11_best_32
  · refine r_iconst dX11_best_11 (v := -1) rfl ?_
    exact r_ireturn rfl dX11_best_12
theorem okX11_best (v1 : Int32) (u : US) : ∀ r, fX11_best v1 u = some r → MetC mX11_best 8 [.ref 0, .int v1] u (tI r) :=
  met_of (by decide +kernel) (Nat.le_of_ble_eq_true rfl) rfl (sX11_best v1 u)
