theorem dJ6_bitCount_0f7a4_0 : decode cJ6_bitCount_0f7a4 0 = .ok (.iload_n 0, 1) := by decide +kernel
theorem dJ6_bitCount_0f7a4_1 : decode cJ6_bitCount_0f7a4 1 = .ok (.iload_n 0, 1) := by decide +kernel
theorem dJ6_bitCount_0f7a4_2 : decode cJ6_bitCount_0f7a4 2 = .ok (.iconst 1, 1) := by decide +kernel
theorem dJ6_bitCount_0f7a4_3 : decode cJ6_bitCount_0f7a4 3 = .ok (.iushr, 1) := by decide +kernel
theorem dJ6_bitCount_0f7a4_4 : decode cJ6_bitCount_0f7a4 4 = .ok (.ldc_w 265, 3) := by decide +kernel
theorem dJ6_bitCount_0f7a4_7 : decode cJ6_bitCount_0f7a4 7 = .ok (.iand, 1) := by decide +kernel
theorem dJ6_bitCount_0f7a4_8 : decode cJ6_bitCount_0f7a4 8 = .ok (.isub, 1) := by decide +kernel
theorem dJ6_bitCount_0f7a4_9 : decode cJ6_bitCount_0f7a4 9 = .ok (.istore_n 0, 1) := by decide +kernel
theorem dJ6_bitCount_0f7a4_10 : decode cJ6_bitCount_0f7a4 10 = .ok (.iload_n 0, 1) := by decide +kernel
theorem dJ6_bitCount_0f7a4_11 : decode cJ6_bitCount_0f7a4 11 = .ok (.ldc_w 266, 3) := by decide +kernel
theorem dJ6_bitCount_0f7a4_14 : decode cJ6_bitCount_0f7a4 14 = .ok (.iand, 1) := by decide +kernel
theorem dJ6_bitCount_0f7a4_15 : decode cJ6_bitCount_0f7a4 15 = .ok (.iload_n 0, 1) := by decide +kernel
theorem dJ6_bitCount_0f7a4_16 : decode cJ6_bitCount_0f7a4 16 = .ok (.iconst 2, 1) := by decide +kernel
theorem dJ6_bitCount_0f7a4_17 : decode cJ6_bitCount_0f7a4 17 = .ok (.iushr, 1) := by decide +kernel
theorem dJ6_bitCount_0f7a4_18 : decode cJ6_bitCount_0f7a4 18 = .ok (.ldc_w 266, 3) := by decide +kernel
theorem dJ6_bitCount_0f7a4_21 : decode cJ6_bitCount_0f7a4 21 = .ok (.iand, 1) := by decide +kernel
theorem dJ6_bitCount_0f7a4_22 : decode cJ6_bitCount_0f7a4 22 = .ok (.iadd, 1) := by decide +kernel
theorem dJ6_bitCount_0f7a4_23 : decode cJ6_bitCount_0f7a4 23 = .ok (.istore_n 0, 1) := by decide +kernel
theorem dJ6_bitCount_0f7a4_24 : decode cJ6_bitCount_0f7a4 24 = .ok (.iload_n 0, 1) := by decide +kernel
theorem dJ6_bitCount_0f7a4_25 : decode cJ6_bitCount_0f7a4 25 = .ok (.iload_n 0, 1) := by decide +kernel
theorem dJ6_bitCount_0f7a4_26 : decode cJ6_bitCount_0f7a4 26 = .ok (.iconst 4, 1) := by decide +kernel
theorem dJ6_bitCount_0f7a4_27 : decode cJ6_bitCount_0f7a4 27 = .ok (.iushr, 1) := by decide +kernel
theorem dJ6_bitCount_0f7a4_28 : decode cJ6_bitCount_0f7a4 28 = .ok (.iadd, 1) := by decide +kernel
theorem dJ6_bitCount_0f7a4_29 : decode cJ6_bitCount_0f7a4 29 = .ok (.ldc_w 267, 3) := by decide +kernel
theorem dJ6_bitCount_0f7a4_32 : decode cJ6_bitCount_0f7a4 32 = .ok (.iand, 1) := by decide +kernel
theorem dJ6_bitCount_0f7a4_33 : decode cJ6_bitCount_0f7a4 33 = .ok (.istore_n 0, 1) := by decide +kernel
theorem dJ6_bitCount_0f7a4_34 : decode cJ6_bitCount_0f7a4 34 = .ok (.iload_n 0, 1) := by decide +kernel
theorem dJ6_bitCount_0f7a4_35 : decode cJ6_bitCount_0f7a4 35 = .ok (.iload_n 0, 1) := by decide +kernel
theorem dJ6_bitCount_0f7a4_36 : decode cJ6_bitCount_0f7a4 36 = .ok (.bipush 8, 2) := by decide +kernel
theorem dJ6_bitCount_0f7a4_38 : decode cJ6_bitCount_0f7a4 38 = .ok (.iushr, 1) := by decide +kernel
theorem dJ6_bitCount_0f7a4_39 : decode cJ6_bitCount_0f7a4 39 = .ok (.iadd, 1) := by decide +kernel
theorem dJ6_bitCount_0f7a4_40 : decode cJ6_bitCount_0f7a4 40 = .ok (.istore_n 0, 1) := by decide +kernel
theorem dJ6_bitCount_0f7a4_41 : decode cJ6_bitCount_0f7a4 41 = .ok (.iload_n 0, 1) := by decide +kernel
theorem dJ6_bitCount_0f7a4_42 : decode cJ6_bitCount_0f7a4 42 = .ok (.iload_n 0, 1) := by decide +kernel
theorem dJ6_bitCount_0f7a4_43 : decode cJ6_bitCount_0f7a4 43 = .ok (.bipush 16, 2) := by decide +kernel
theorem dJ6_bitCount_0f7a4_45 : decode cJ6_bitCount_0f7a4 45 = .ok (.iushr, 1) := by decide +kernel
theorem dJ6_bitCount_0f7a4_46 : decode cJ6_bitCount_0f7a4 46 = .ok (.iadd, 1) := by decide +kernel
theorem dJ6_bitCount_0f7a4_47 : decode cJ6_bitCount_0f7a4 47 = .ok (.istore_n 0, 1) := by decide +kernel
theorem dJ6_bitCount_0f7a4_48 : decode cJ6_bitCount_0f7a4 48 = .ok (.iload_n 0, 1) := by decide +kernel
theorem dJ6_bitCount_0f7a4_49 : decode cJ6_bitCount_0f7a4 49 = .ok (.bipush 63, 2) := by decide +kernel
theorem dJ6_bitCount_0f7a4_51 : decode cJ6_bitCount_0f7a4 51 = .ok (.iand, 1) := by decide +kernel
theorem dJ6_bitCount_0f7a4_52 : decode cJ6_bitCount_0f7a4 52 = .ok (.ireturn, 1) := by decide +kernel
theorem b_J6_bitCount_0f7a4_0 {x0 : Int} {σ : St} {Q : Res → St → Prop} (h : (in32 (x0 - (band (ushr x0 1) 1431655765))) ∧ ((in32 ((band (x0 - (band (ushr x0 1) 1431655765)) 858993459) + (band (ushr (x0 - (band (ushr x0 1) 1431655765)) 2) 858993459))) ∧ ((in32 (((band (x0 - (band (ushr x0 1) 1431655765)) 858993459) + (band (ushr (x0 - (band (ushr x0 1) 1431655765)) 2) 858993459)) + (ushr ((band (x0 - (band (ushr x0 1) 1431655765)) 858993459) + (band (ushr (x0 - (band (ushr x0 1) 1431655765)) 2) 858993459)) 4))) ∧ ((in32 ((band (((band (x0 - (band (ushr x0 1) 1431655765)) 858993459) + (band (ushr (x0 - (band (ushr x0 1) 1431655765)) 2) 858993459)) + (ushr ((band (x0 - (band (ushr x0 1) 1431655765)) 858993459) + (band (ushr (x0 - (band (ushr x0 1) 1431655765)) 2) 858993459)) 4)) 252645135) + (ushr (band (((band (x0 - (band (ushr x0 1) 1431655765)) 858993459) + (band (ushr (x0 - (band (ushr x0 1) 1431655765)) 2) 858993459)) + (ushr ((band (x0 - (band (ushr x0 1) 1431655765)) 858993459) + (band (ushr (x0 - (band (ushr x0 1) 1431655765)) 2) 858993459)) 4)) 252645135) 8))) ∧ ((in32 (((band (((band (x0 - (band (ushr x0 1) 1431655765)) 858993459) + (band (ushr (x0 - (band (ushr x0 1) 1431655765)) 2) 858993459)) + (ushr ((band (x0 - (band (ushr x0 1) 1431655765)) 858993459) + (band (ushr (x0 - (band (ushr x0 1) 1431655765)) 2) 858993459)) 4)) 252645135) + (ushr (band (((band (x0 - (band (ushr x0 1) 1431655765)) 858993459) + (band (ushr (x0 - (band (ushr x0 1) 1431655765)) 2) 858993459)) + (ushr ((band (x0 - (band (ushr x0 1) 1431655765)) 858993459) + (band (ushr (x0 - (band (ushr x0 1) 1431655765)) 2) 858993459)) 4)) 252645135) 8)) + (ushr ((band (((band (x0 - (band (ushr x0 1) 1431655765)) 858993459) + (band (ushr (x0 - (band (ushr x0 1) 1431655765)) 2) 858993459)) + (ushr ((band (x0 - (band (ushr x0 1) 1431655765)) 858993459) + (band (ushr (x0 - (band (ushr x0 1) 1431655765)) 2) 858993459)) 4)) 252645135) + (ushr (band (((band (x0 - (band (ushr x0 1) 1431655765)) 858993459) + (band (ushr (x0 - (band (ushr x0 1) 1431655765)) 2) 858993459)) + (ushr ((band (x0 - (band (ushr x0 1) 1431655765)) 858993459) + (band (ushr (x0 - (band (ushr x0 1) 1431655765)) 2) 858993459)) 4)) 252645135) 8)) 16))) ∧ (Q (.inl (some (vI (band (((band (((band (x0 - (band (ushr x0 1) 1431655765)) 858993459) + (band (ushr (x0 - (band (ushr x0 1) 1431655765)) 2) 858993459)) + (ushr ((band (x0 - (band (ushr x0 1) 1431655765)) 858993459) + (band (ushr (x0 - (band (ushr x0 1) 1431655765)) 2) 858993459)) 4)) 252645135) + (ushr (band (((band (x0 - (band (ushr x0 1) 1431655765)) 858993459) + (band (ushr (x0 - (band (ushr x0 1) 1431655765)) 2) 858993459)) + (ushr ((band (x0 - (band (ushr x0 1) 1431655765)) 858993459) + (band (ushr (x0 - (band (ushr x0 1) 1431655765)) 2) 858993459)) 4)) 252645135) 8)) + (ushr ((band (((band (x0 - (band (ushr x0 1) 1431655765)) 858993459) + (band (ushr (x0 - (band (ushr x0 1) 1431655765)) 2) 858993459)) + (ushr ((band (x0 - (band (ushr x0 1) 1431655765)) 858993459) + (band (ushr (x0 - (band (ushr x0 1) 1431655765)) 2) 858993459)) 4)) 252645135) + (ushr (band (((band (x0 - (band (ushr x0 1) 1431655765)) 858993459) + (band (ushr (x0 - (band (ushr x0 1) 1431655765)) 2) 858993459)) + (ushr ((band (x0 - (band (ushr x0 1) 1431655765)) 858993459) + (band (ushr (x0 - (band (ushr x0 1) 1431655765)) 2) 858993459)) 4)) 252645135) 8)) 16)) 63)))) σ)))))) : WP mJ6_bitCount_0f7a4 0 [vI x0] [] σ Q := by
  refine wp_iload_n dJ6_bitCount_0f7a4_0 rfl rfl ?_
  refine wp_iload_n dJ6_bitCount_0f7a4_1 rfl rfl ?_
  refine wp_iconst dJ6_bitCount_0f7a4_2 rfl ?_
  refine wp_iushr dJ6_bitCount_0f7a4_3 ?_
  refine wp_ldcw (n := 1431655765) dJ6_bitCount_0f7a4_4 ck_java_lang_Integer_265 rfl ?_
  refine wp_iand dJ6_bitCount_0f7a4_7 ?_
  have s5 := h.1
  replace h := h.2
  refine wp_isub dJ6_bitCount_0f7a4_8 ?_ (h1 := s5.1) (h2 := s5.2)
  refine wp_istore_n dJ6_bitCount_0f7a4_9 rfl (by decide) rfl rfl ?_
  refine wp_iload_n dJ6_bitCount_0f7a4_10 rfl rfl ?_
  refine wp_ldcw (n := 858993459) dJ6_bitCount_0f7a4_11 ck_java_lang_Integer_266 rfl ?_
  refine wp_iand dJ6_bitCount_0f7a4_14 ?_
  refine wp_iload_n dJ6_bitCount_0f7a4_15 rfl rfl ?_
  refine wp_iconst dJ6_bitCount_0f7a4_16 rfl ?_
  refine wp_iushr dJ6_bitCount_0f7a4_17 ?_
  refine wp_ldcw (n := 858993459) dJ6_bitCount_0f7a4_18 ck_java_lang_Integer_266 rfl ?_
  refine wp_iand dJ6_bitCount_0f7a4_21 ?_
  have s4 := h.1
  replace h := h.2
  refine wp_iadd dJ6_bitCount_0f7a4_22 ?_ (h1 := s4.1) (h2 := s4.2)
  refine wp_istore_n dJ6_bitCount_0f7a4_23 rfl (by decide) rfl rfl ?_
  refine wp_iload_n dJ6_bitCount_0f7a4_24 rfl rfl ?_
  refine wp_iload_n dJ6_bitCount_0f7a4_25 rfl rfl ?_
  refine wp_iconst dJ6_bitCount_0f7a4_26 rfl ?_
  refine wp_iushr dJ6_bitCount_0f7a4_27 ?_
  have s3 := h.1
  replace h := h.2
  refine wp_iadd dJ6_bitCount_0f7a4_28 ?_ (h1 := s3.1) (h2 := s3.2)
  refine wp_ldcw (n := 252645135) dJ6_bitCount_0f7a4_29 ck_java_lang_Integer_267 rfl ?_
  refine wp_iand dJ6_bitCount_0f7a4_32 ?_
  refine wp_istore_n dJ6_bitCount_0f7a4_33 rfl (by decide) rfl rfl ?_
  refine wp_iload_n dJ6_bitCount_0f7a4_34 rfl rfl ?_
  refine wp_iload_n dJ6_bitCount_0f7a4_35 rfl rfl ?_
  refine wp_bipush dJ6_bitCount_0f7a4_36 rfl ?_
  refine wp_iushr dJ6_bitCount_0f7a4_38 ?_
  have s2 := h.1
  replace h := h.2
  refine wp_iadd dJ6_bitCount_0f7a4_39 ?_ (h1 := s2.1) (h2 := s2.2)
  refine wp_istore_n dJ6_bitCount_0f7a4_40 rfl (by decide) rfl rfl ?_
  refine wp_iload_n dJ6_bitCount_0f7a4_41 rfl rfl ?_
  refine wp_iload_n dJ6_bitCount_0f7a4_42 rfl rfl ?_
  refine wp_bipush dJ6_bitCount_0f7a4_43 rfl ?_
  refine wp_iushr dJ6_bitCount_0f7a4_45 ?_
  have s1 := h.1
  replace h := h.2
  refine wp_iadd dJ6_bitCount_0f7a4_46 ?_ (h1 := s1.1) (h2 := s1.2)
  refine wp_istore_n dJ6_bitCount_0f7a4_47 rfl (by decide) rfl rfl ?_
  refine wp_iload_n dJ6_bitCount_0f7a4_48 rfl rfl ?_
  refine wp_bipush dJ6_bitCount_0f7a4_49 rfl ?_
  refine wp_iand dJ6_bitCount_0f7a4_51 ?_
  exact wp_iret dJ6_bitCount_0f7a4_52 rfl h
theorem bc_all : ∀ n : Fin 1024, (fun x0 : Int => (-2147483648 ≤ x0 - (band (ushr x0 1) 1431655765) ∧ x0 - (band (ushr x0 1) 1431655765) < 2147483648) ∧ (-2147483648 ≤ (band (x0 - (band (ushr x0 1) 1431655765)) 858993459) + (band (ushr (x0 - (band (ushr x0 1) 1431655765)) 2) 858993459) ∧ (band (x0 - (band (ushr x0 1) 1431655765)) 858993459) + (band (ushr (x0 - (band (ushr x0 1) 1431655765)) 2) 858993459) < 2147483648) ∧ (-2147483648 ≤ ((band (x0 - (band (ushr x0 1) 1431655765)) 858993459) + (band (ushr (x0 - (band (ushr x0 1) 1431655765)) 2) 858993459)) + (ushr ((band (x0 - (band (ushr x0 1) 1431655765)) 858993459) + (band (ushr (x0 - (band (ushr x0 1) 1431655765)) 2) 858993459)) 4) ∧ ((band (x0 - (band (ushr x0 1) 1431655765)) 858993459) + (band (ushr (x0 - (band (ushr x0 1) 1431655765)) 2) 858993459)) + (ushr ((band (x0 - (band (ushr x0 1) 1431655765)) 858993459) + (band (ushr (x0 - (band (ushr x0 1) 1431655765)) 2) 858993459)) 4) < 2147483648) ∧ (-2147483648 ≤ (band (((band (x0 - (band (ushr x0 1) 1431655765)) 858993459) + (band (ushr (x0 - (band (ushr x0 1) 1431655765)) 2) 858993459)) + (ushr ((band (x0 - (band (ushr x0 1) 1431655765)) 858993459) + (band (ushr (x0 - (band (ushr x0 1) 1431655765)) 2) 858993459)) 4)) 252645135) + (ushr (band (((band (x0 - (band (ushr x0 1) 1431655765)) 858993459) + (band (ushr (x0 - (band (ushr x0 1) 1431655765)) 2) 858993459)) + (ushr ((band (x0 - (band (ushr x0 1) 1431655765)) 858993459) + (band (ushr (x0 - (band (ushr x0 1) 1431655765)) 2) 858993459)) 4)) 252645135) 8) ∧ (band (((band (x0 - (band (ushr x0 1) 1431655765)) 858993459) + (band (ushr (x0 - (band (ushr x0 1) 1431655765)) 2) 858993459)) + (ushr ((band (x0 - (band (ushr x0 1) 1431655765)) 858993459) + (band (ushr (x0 - (band (ushr x0 1) 1431655765)) 2) 858993459)) 4)) 252645135) + (ushr (band (((band (x0 - (band (ushr x0 1) 1431655765)) 858993459) + (band (ushr (x0 - (band (ushr x0 1) 1431655765)) 2) 858993459)) + (ushr ((band (x0 - (band (ushr x0 1) 1431655765)) 858993459) + (band (ushr (x0 - (band (ushr x0 1) 1431655765)) 2) 858993459)) 4)) 252645135) 8) < 2147483648) ∧ (-2147483648 ≤ ((band (((band (x0 - (band (ushr x0 1) 1431655765)) 858993459) + (band (ushr (x0 - (band (ushr x0 1) 1431655765)) 2) 858993459)) + (ushr ((band (x0 - (band (ushr x0 1) 1431655765)) 858993459) + (band (ushr (x0 - (band (ushr x0 1) 1431655765)) 2) 858993459)) 4)) 252645135) + (ushr (band (((band (x0 - (band (ushr x0 1) 1431655765)) 858993459) + (band (ushr (x0 - (band (ushr x0 1) 1431655765)) 2) 858993459)) + (ushr ((band (x0 - (band (ushr x0 1) 1431655765)) 858993459) + (band (ushr (x0 - (band (ushr x0 1) 1431655765)) 2) 858993459)) 4)) 252645135) 8)) + (ushr ((band (((band (x0 - (band (ushr x0 1) 1431655765)) 858993459) + (band (ushr (x0 - (band (ushr x0 1) 1431655765)) 2) 858993459)) + (ushr ((band (x0 - (band (ushr x0 1) 1431655765)) 858993459) + (band (ushr (x0 - (band (ushr x0 1) 1431655765)) 2) 858993459)) 4)) 252645135) + (ushr (band (((band (x0 - (band (ushr x0 1) 1431655765)) 858993459) + (band (ushr (x0 - (band (ushr x0 1) 1431655765)) 2) 858993459)) + (ushr ((band (x0 - (band (ushr x0 1) 1431655765)) 858993459) + (band (ushr (x0 - (band (ushr x0 1) 1431655765)) 2) 858993459)) 4)) 252645135) 8)) 16) ∧ ((band (((band (x0 - (band (ushr x0 1) 1431655765)) 858993459) + (band (ushr (x0 - (band (ushr x0 1) 1431655765)) 2) 858993459)) + (ushr ((band (x0 - (band (ushr x0 1) 1431655765)) 858993459) + (band (ushr (x0 - (band (ushr x0 1) 1431655765)) 2) 858993459)) 4)) 252645135) + (ushr (band (((band (x0 - (band (ushr x0 1) 1431655765)) 858993459) + (band (ushr (x0 - (band (ushr x0 1) 1431655765)) 2) 858993459)) + (ushr ((band (x0 - (band (ushr x0 1) 1431655765)) 858993459) + (band (ushr (x0 - (band (ushr x0 1) 1431655765)) 2) 858993459)) 4)) 252645135) 8)) + (ushr ((band (((band (x0 - (band (ushr x0 1) 1431655765)) 858993459) + (band (ushr (x0 - (band (ushr x0 1) 1431655765)) 2) 858993459)) + (ushr ((band (x0 - (band (ushr x0 1) 1431655765)) 858993459) + (band (ushr (x0 - (band (ushr x0 1) 1431655765)) 2) 858993459)) 4)) 252645135) + (ushr (band (((band (x0 - (band (ushr x0 1) 1431655765)) 858993459) + (band (ushr (x0 - (band (ushr x0 1) 1431655765)) 2) 858993459)) + (ushr ((band (x0 - (band (ushr x0 1) 1431655765)) 858993459) + (band (ushr (x0 - (band (ushr x0 1) 1431655765)) 2) 858993459)) 4)) 252645135) 8)) 16) < 2147483648) ∧ band (((band (((band (x0 - (band (ushr x0 1) 1431655765)) 858993459) + (band (ushr (x0 - (band (ushr x0 1) 1431655765)) 2) 858993459)) + (ushr ((band (x0 - (band (ushr x0 1) 1431655765)) 858993459) + (band (ushr (x0 - (band (ushr x0 1) 1431655765)) 2) 858993459)) 4)) 252645135) + (ushr (band (((band (x0 - (band (ushr x0 1) 1431655765)) 858993459) + (band (ushr (x0 - (band (ushr x0 1) 1431655765)) 2) 858993459)) + (ushr ((band (x0 - (band (ushr x0 1) 1431655765)) 858993459) + (band (ushr (x0 - (band (ushr x0 1) 1431655765)) 2) 858993459)) 4)) 252645135) 8)) + (ushr ((band (((band (x0 - (band (ushr x0 1) 1431655765)) 858993459) + (band (ushr (x0 - (band (ushr x0 1) 1431655765)) 2) 858993459)) + (ushr ((band (x0 - (band (ushr x0 1) 1431655765)) 858993459) + (band (ushr (x0 - (band (ushr x0 1) 1431655765)) 2) 858993459)) 4)) 252645135) + (ushr (band (((band (x0 - (band (ushr x0 1) 1431655765)) 858993459) + (band (ushr (x0 - (band (ushr x0 1) 1431655765)) 2) 858993459)) + (ushr ((band (x0 - (band (ushr x0 1) 1431655765)) 858993459) + (band (ushr (x0 - (band (ushr x0 1) 1431655765)) 2) 858993459)) 4)) 252645135) 8)) 16)) 63 = bcnt x0) ((n.val : Nat) : Int) := by decide +kernel
theorem pb_J6_bitCount_0f7a4 {x0 : Int} {σ : St} {Q : Res → St → Prop} (hs : 0 ≤ x0 ∧ x0 < 1024) (h : Q (.inl (some (vI (bcnt x0)))) σ) : WP mJ6_bitCount_0f7a4 0 [vI x0] [] σ Q := by
  obtain ⟨n, rfl⟩ : ∃ n : Nat, x0 = (n : Int) := ⟨x0.toNat, by omega⟩
  obtain ⟨h0, h1, h2, h3, h4, he⟩ := bc_all ⟨n, by omega⟩
  rw [← he] at h
  exact b_J6_bitCount_0f7a4_0 ⟨h0, h1, h2, h3, h4, h⟩
theorem dJ7_fill_53178_0 : decode cJ7_fill_53178 0 = .ok (.iconst 0, 1) := by decide +kernel
theorem dJ7_fill_53178_1 : decode cJ7_fill_53178 1 = .ok (.istore_n 2, 1) := by decide +kernel
theorem dJ7_fill_53178_2 : decode cJ7_fill_53178 2 = .ok (.aload_n 0, 1) := by decide +kernel
theorem dJ7_fill_53178_3 : decode cJ7_fill_53178 3 = .ok (.arraylength, 1) := by decide +kernel
theorem dJ7_fill_53178_4 : decode cJ7_fill_53178 4 = .ok (.istore_n 3, 1) := by decide +kernel
theorem dJ7_fill_53178_5 : decode cJ7_fill_53178 5 = .ok (.iload_n 2, 1) := by decide +kernel
theorem dJ7_fill_53178_6 : decode cJ7_fill_53178 6 = .ok (.iload_n 3, 1) := by decide +kernel
theorem dJ7_fill_53178_7 : decode cJ7_fill_53178 7 = .ok (.if_icmp .ge 13, 3) := by decide +kernel
theorem dJ7_fill_53178_10 : decode cJ7_fill_53178 10 = .ok (.aload_n 0, 1) := by decide +kernel
theorem dJ7_fill_53178_11 : decode cJ7_fill_53178 11 = .ok (.iload_n 2, 1) := by decide +kernel
theorem dJ7_fill_53178_12 : decode cJ7_fill_53178 12 = .ok (.iload_n 1, 1) := by decide +kernel
theorem dJ7_fill_53178_13 : decode cJ7_fill_53178 13 = .ok (.iastore, 1) := by decide +kernel
theorem dJ7_fill_53178_14 : decode cJ7_fill_53178 14 = .ok (.iinc 2 1, 3) := by decide +kernel
theorem dJ7_fill_53178_17 : decode cJ7_fill_53178 17 = .ok (.goto (-12), 3) := by decide +kernel
theorem dJ7_fill_53178_20 : decode cJ7_fill_53178 20 = .ok (.return_, 1) := by decide +kernel
theorem b_J7_fill_53178_0 {c0 : Nat} {j : Nat} {x1 : Int} {σ : St} {Q : Res → St → Prop} (h00 : c0 ≠ 0) (hoc : oc c0 = none) (hak : ak c0 = 0) (hlt : c0 < 1000) (hal : (Int32.ofNat (al c0)).toInt = (al c0 : Int)) (h : WP mJ7_fill_53178 5 [vR c0 j, vI x1, vI 0, vI ((al c0 : Int))] [] σ Q) : WP mJ7_fill_53178 0 [vR c0 j, vI x1, vU, vU] [] σ Q := by
  refine wp_iconst dJ7_fill_53178_0 rfl ?_
  refine wp_istore_n dJ7_fill_53178_1 rfl (by decide) rfl rfl ?_
  refine wp_aload_n dJ7_fill_53178_2 rfl rfl ?_ (h0 := h00)
  refine wp_alen dJ7_fill_53178_3 hoc (by rw [hak]; decide) hal ?_ (h1 := hlt)
  refine wp_istore_n dJ7_fill_53178_4 rfl (by decide) rfl rfl ?_
  exact h
theorem b_J7_fill_53178_5 {c0 : Nat} {j : Nat} {x1 : Int} {x2 : Int} {x3 : Int} {σ : St} {Q : Res → St → Prop} (h00 : c0 ≠ 0) (hoc : oc c0 = none) (hak : ak c0 = 0) (hlt : c0 < 1000) (hal : (Int32.ofNat (al c0)).toInt = (al c0 : Int)) (h : ((x3 ≤ x2) → (Q (.inl none) σ)) ∧ ((x2 < x3) → ((0 ≤ x2 ∧ x2 < (al c0 : Int)) ∧ ((in32 (x2 + 1)) ∧ (WP mJ7_fill_53178 5 [vR c0 j, vI x1, vI (x2 + 1), vI x3] [] (up σ c0 j x2.toNat x1) Q))))) : WP mJ7_fill_53178 5 [vR c0 j, vI x1, vI x2, vI x3] [] σ Q := by
  refine wp_iload_n dJ7_fill_53178_5 rfl rfl ?_
  refine wp_iload_n dJ7_fill_53178_6 rfl rfl ?_
  refine wp_icmp_ge (tgt := 20) dJ7_fill_53178_7 (by decide) (fun hc => ?_) (fun hc => ?_)
  · replace h := h.1 hc
    exact wp_ret dJ7_fill_53178_20 rfl h
  · replace h := h.2 hc
    refine wp_aload_n dJ7_fill_53178_10 rfl rfl ?_ (h0 := h00)
    refine wp_iload_n dJ7_fill_53178_11 rfl rfl ?_
    refine wp_iload_n dJ7_fill_53178_12 rfl rfl ?_
    have s2 := h.1
    replace h := h.2
    refine wp_iastore dJ7_fill_53178_13 hoc hak s2.1 s2.2 ?_ (h1 := hlt)
    have s1 := h.1
    replace h := h.2
    refine wp_iinc dJ7_fill_53178_14 rfl (by decide) rfl rfl ?_ (h1 := s1.1) (h2 := s1.2)
    refine wp_goto (tgt := 5) dJ7_fill_53178_17 (by decide) ?_
    exact h
