/-! the two systems go on together -/
theorem rf_sys : rf_Sys rf_Inv := fun j hj => ⟨⟨rf_st0, rf_st1, rf_st2, rf_st3, rf_st4, rf_st5, rf_st6, rf_st7, rf_st8, rf_st9, rf_st10, rf_st11, rf_st12, rf_st13, rf_st14, rf_st15, rf_st16, rf_st17, rf_st18, rf_st19, rf_st20, rf_st21, rf_st22, rf_st23, rf_st24, rf_st25, rf_st26, rf_st27, rf_st28, rf_st29, rf_st30, rf_st31, rf_st32, rf_st33, rf_st34, rf_st35, rf_st36 (by omega), rf_st37, rf_st38, rf_st39, rf_st40, rf_st41, rf_st43, rf_st44⟩, fun _ _ _ _ _ _ h => rf_Iv.next h⟩
theorem rf_sys42 : rf_Sys42 rf_Inv := fun j hj => rf_st42 (by omega)
