/-! the end -/
theorem all_st : ALL Inv := ⟨Inv_mono, st_0, st_1, st_2, st_3, st_4, st_5, st_6, st_7, st_8, st_9, st_10, st_11, st_12, st_13, st_14, st_15, st_16, st_17, st_18, st_19, st_20, st_21, st_22, st_23, st_24, st_25, st_26, st_27, st_28, st_29, st_30, st_31, st_32, st_33, st_34, st_35, st_36, st_37, st_38, st_39, st_40, st_41, st_42, st_43⟩
theorem i_vc : Claimed_1_1 ∧ Claimed_1_2 := end_of all_st Inv_0
