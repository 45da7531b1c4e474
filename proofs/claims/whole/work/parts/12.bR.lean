theorem dX3_bits_0 : decode cX3_bits 0 = .ok (.aload_n 0, 1) := by decide +kernel
theorem dX3_bits_1 : decode cX3_bits 1 = .ok (.getfield 9, 3) := by decide +kernel
theorem dX3_bits_4 : decode cX3_bits 4 = .ok (.iload_n 1, 1) := by decide +kernel
theorem dX3_bits_5 : decode cX3_bits 5 = .ok (.bipush 10, 2) := by decide +kernel
theorem dX3_bits_7 : decode cX3_bits 7 = .ok (.imul, 1) := by decide +kernel
theorem dX3_bits_8 : decode cX3_bits 8 = .ok (.iload_n 2, 1) := by decide +kernel
theorem dX3_bits_9 : decode cX3_bits 9 = .ok (.iadd, 1) := by decide +kernel
theorem dX3_bits_10 : decode cX3_bits 10 = .ok (.baload, 1) := by decide +kernel
theorem dX3_bits_11 : decode cX3_bits 11 = .ok (.bipush 15, 2) := by decide +kernel
theorem dX3_bits_13 : decode cX3_bits 13 = .ok (.iand, 1) := by decide +kernel
theorem dX3_bits_14 : decode cX3_bits 14 = .ok (.ireturn, 1) := by decide +kernel
theorem b_X3_bits_0 {i : Nat} {x1 : Int} {x2 : Int} {σ : St} {Q : Res → St → Prop} (h : (in32 (x1 * 10)) ∧ ((in32 ((x1 * 10) + x2)) ∧ ((0 ≤ (x1 * 10) + x2 ∧ ((x1 * 10) + x2) < 10240) ∧ (Q (.inl (some (vI (band (σ 23 i (((x1 * 10) + x2).toNat)) 15)))) σ)))) : WP mX3_bits 0 [vR 4 i, vI x1, vI x2] [] σ Q := by
  refine wp_aload_n dX3_bits_0 rfl rfl ?_
  refine wp_getR dX3_bits_1 fl_CustomValley_Replies_9 rfl rfl ?_
  refine wp_iload_n dX3_bits_4 rfl rfl ?_
  refine wp_bipush dX3_bits_5 rfl ?_
  have s3 := h.1
  replace h := h.2
  refine wp_imul dX3_bits_7 ?_ (h1 := s3.1) (h2 := s3.2)
  refine wp_iload_n dX3_bits_8 rfl rfl ?_
  have s2 := h.1
  replace h := h.2
  refine wp_iadd dX3_bits_9 ?_ (h1 := s2.1) (h2 := s2.2)
  have s1 := h.1
  replace h := h.2
  refine wp_baload dX3_bits_10 rfl rfl s1.1 s1.2 ?_
  refine wp_bipush dX3_bits_11 rfl ?_
  refine wp_iand dX3_bits_13 ?_
  exact wp_iret dX3_bits_14 rfl h
theorem pb_X3_bits {i : Nat} {x1 : Int} {x2 : Int} {σ : St} {Q : Res → St → Prop} (hs : in32 (x1 * 10) ∧ in32 ((x1 * 10) + x2) ∧ 0 ≤ (x1 * 10) + x2 ∧ ((x1 * 10) + x2) < 10240) (h : Q (.inl (some (vI (band (σ 23 i (((x1 * 10) + x2).toNat)) 15)))) σ) : WP mX3_bits 0 [vR 4 i, vI x1, vI x2] [] σ Q := by
  obtain ⟨h0, h1, h2, h3⟩ := hs
  exact b_X3_bits_0 ⟨h0, h1, ⟨h2, h3⟩, h⟩
theorem dX3_own_0 : decode cX3_own 0 = .ok (.aload_n 0, 1) := by decide +kernel
theorem dX3_own_1 : decode cX3_own 1 = .ok (.getfield 9, 3) := by decide +kernel
theorem dX3_own_4 : decode cX3_own 4 = .ok (.iload_n 1, 1) := by decide +kernel
theorem dX3_own_5 : decode cX3_own 5 = .ok (.bipush 10, 2) := by decide +kernel
theorem dX3_own_7 : decode cX3_own 7 = .ok (.imul, 1) := by decide +kernel
theorem dX3_own_8 : decode cX3_own 8 = .ok (.iload_n 2, 1) := by decide +kernel
theorem dX3_own_9 : decode cX3_own 9 = .ok (.iadd, 1) := by decide +kernel
theorem dX3_own_10 : decode cX3_own 10 = .ok (.baload, 1) := by decide +kernel
theorem dX3_own_11 : decode cX3_own 11 = .ok (.iconst 4, 1) := by decide +kernel
theorem dX3_own_12 : decode cX3_own 12 = .ok (.ishr, 1) := by decide +kernel
theorem dX3_own_13 : decode cX3_own 13 = .ok (.ireturn, 1) := by decide +kernel
theorem b_X3_own_0 {i : Nat} {x1 : Int} {x2 : Int} {σ : St} {Q : Res → St → Prop} (h : (in32 (x1 * 10)) ∧ ((in32 ((x1 * 10) + x2)) ∧ ((0 ≤ (x1 * 10) + x2 ∧ ((x1 * 10) + x2) < 10240) ∧ (Q (.inl (some (vI (shr (σ 23 i (((x1 * 10) + x2).toNat)) 4)))) σ)))) : WP mX3_own 0 [vR 4 i, vI x1, vI x2] [] σ Q := by
  refine wp_aload_n dX3_own_0 rfl rfl ?_
  refine wp_getR dX3_own_1 fl_CustomValley_Replies_9 rfl rfl ?_
  refine wp_iload_n dX3_own_4 rfl rfl ?_
  refine wp_bipush dX3_own_5 rfl ?_
  have s3 := h.1
  replace h := h.2
  refine wp_imul dX3_own_7 ?_ (h1 := s3.1) (h2 := s3.2)
  refine wp_iload_n dX3_own_8 rfl rfl ?_
  have s2 := h.1
  replace h := h.2
  refine wp_iadd dX3_own_9 ?_ (h1 := s2.1) (h2 := s2.2)
  have s1 := h.1
  replace h := h.2
  refine wp_baload dX3_own_10 rfl rfl s1.1 s1.2 ?_
  refine wp_iconst dX3_own_11 rfl ?_
  refine wp_ishr dX3_own_12 ?_
  exact wp_iret dX3_own_13 rfl h
theorem pb_X3_own {i : Nat} {x1 : Int} {x2 : Int} {σ : St} {Q : Res → St → Prop} (hs : in32 (x1 * 10) ∧ in32 ((x1 * 10) + x2) ∧ 0 ≤ (x1 * 10) + x2 ∧ ((x1 * 10) + x2) < 10240) (h : Q (.inl (some (vI (shr (σ 23 i (((x1 * 10) + x2).toNat)) 4)))) σ) : WP mX3_own 0 [vR 4 i, vI x1, vI x2] [] σ Q := by
  obtain ⟨h0, h1, h2, h3⟩ := hs
  exact b_X3_own_0 ⟨h0, h1, ⟨h2, h3⟩, h⟩
theorem dX3_copied_0 : decode cX3_copied 0 = .ok (.aload_n 0, 1) := by decide +kernel
theorem dX3_copied_1 : decode cX3_copied 1 = .ok (.getfield 19, 3) := by decide +kernel
theorem dX3_copied_4 : decode cX3_copied 4 = .ok (.iload_n 2, 1) := by decide +kernel
theorem dX3_copied_5 : decode cX3_copied 5 = .ok (.iaload, 1) := by decide +kernel
theorem dX3_copied_6 : decode cX3_copied 6 = .ok (.istore_n 3, 1) := by decide +kernel
theorem dX3_copied_7 : decode cX3_copied 7 = .ok (.iconst 1, 1) := by decide +kernel
theorem dX3_copied_8 : decode cX3_copied 8 = .ok (.aload_n 0, 1) := by decide +kernel
theorem dX3_copied_9 : decode cX3_copied 9 = .ok (.getfield 15, 3) := by decide +kernel
theorem dX3_copied_12 : decode cX3_copied 12 = .ok (.iload_n 2, 1) := by decide +kernel
theorem dX3_copied_13 : decode cX3_copied 13 = .ok (.iaload, 1) := by decide +kernel
theorem dX3_copied_14 : decode cX3_copied 14 = .ok (.ishl, 1) := by decide +kernel
theorem dX3_copied_15 : decode cX3_copied 15 = .ok (.istore 4, 2) := by decide +kernel
theorem dX3_copied_17 : decode cX3_copied 17 = .ok (.iconst 0, 1) := by decide +kernel
theorem dX3_copied_18 : decode cX3_copied 18 = .ok (.istore 5, 2) := by decide +kernel
theorem dX3_copied_20 : decode cX3_copied 20 = .ok (.iload 5, 2) := by decide +kernel
theorem dX3_copied_22 : decode cX3_copied 22 = .ok (.aload_n 1, 1) := by decide +kernel
theorem dX3_copied_23 : decode cX3_copied 23 = .ok (.getfield 38, 3) := by decide +kernel
theorem dX3_copied_26 : decode cX3_copied 26 = .ok (.if_icmp .ge 73, 3) := by decide +kernel
theorem dX3_copied_29 : decode cX3_copied 29 = .ok (.aload_n 1, 1) := by decide +kernel
theorem dX3_copied_30 : decode cX3_copied 30 = .ok (.getfield 61, 3) := by decide +kernel
theorem dX3_copied_33 : decode cX3_copied 33 = .ok (.iload_n 2, 1) := by decide +kernel
theorem dX3_copied_34 : decode cX3_copied 34 = .ok (.iaload, 1) := by decide +kernel
theorem dX3_copied_35 : decode cX3_copied 35 = .ok (.iload 5, 2) := by decide +kernel
theorem dX3_copied_37 : decode cX3_copied 37 = .ok (.ishr, 1) := by decide +kernel
theorem dX3_copied_38 : decode cX3_copied 38 = .ok (.iconst 1, 1) := by decide +kernel
theorem dX3_copied_39 : decode cX3_copied 39 = .ok (.iand, 1) := by decide +kernel
theorem dX3_copied_40 : decode cX3_copied 40 = .ok (.ifCond .ne 6, 3) := by decide +kernel
theorem dX3_copied_43 : decode cX3_copied 43 = .ok (.goto 50, 3) := by decide +kernel
theorem dX3_copied_46 : decode cX3_copied 46 = .ok (.aload_n 0, 1) := by decide +kernel
theorem dX3_copied_47 : decode cX3_copied 47 = .ok (.getfield 19, 3) := by decide +kernel
theorem dX3_copied_50 : decode cX3_copied 50 = .ok (.iload 5, 2) := by decide +kernel
theorem dX3_copied_52 : decode cX3_copied 52 = .ok (.iaload, 1) := by decide +kernel
theorem dX3_copied_53 : decode cX3_copied 53 = .ok (.iload_n 3, 1) := by decide +kernel
theorem dX3_copied_54 : decode cX3_copied 54 = .ok (.if_icmp .le 14, 3) := by decide +kernel
theorem dX3_copied_57 : decode cX3_copied 57 = .ok (.aload_n 0, 1) := by decide +kernel
theorem dX3_copied_58 : decode cX3_copied 58 = .ok (.getfield 19, 3) := by decide +kernel
theorem dX3_copied_61 : decode cX3_copied 61 = .ok (.iload 5, 2) := by decide +kernel
theorem dX3_copied_63 : decode cX3_copied 63 = .ok (.iaload, 1) := by decide +kernel
theorem dX3_copied_64 : decode cX3_copied 64 = .ok (.istore_n 3, 1) := by decide +kernel
theorem dX3_copied_65 : decode cX3_copied 65 = .ok (.iconst 0, 1) := by decide +kernel
theorem dX3_copied_66 : decode cX3_copied 66 = .ok (.istore 4, 2) := by decide +kernel
theorem dX3_copied_68 : decode cX3_copied 68 = .ok (.aload_n 0, 1) := by decide +kernel
theorem dX3_copied_69 : decode cX3_copied 69 = .ok (.getfield 19, 3) := by decide +kernel
theorem dX3_copied_72 : decode cX3_copied 72 = .ok (.iload 5, 2) := by decide +kernel
theorem dX3_copied_74 : decode cX3_copied 74 = .ok (.iaload, 1) := by decide +kernel
theorem dX3_copied_75 : decode cX3_copied 75 = .ok (.iload_n 3, 1) := by decide +kernel
theorem dX3_copied_76 : decode cX3_copied 76 = .ok (.if_icmp .ne 17, 3) := by decide +kernel
theorem dX3_copied_79 : decode cX3_copied 79 = .ok (.iload 4, 2) := by decide +kernel
theorem dX3_copied_81 : decode cX3_copied 81 = .ok (.iconst 1, 1) := by decide +kernel
theorem dX3_copied_82 : decode cX3_copied 82 = .ok (.aload_n 0, 1) := by decide +kernel
theorem dX3_copied_83 : decode cX3_copied 83 = .ok (.getfield 15, 3) := by decide +kernel
theorem dX3_copied_86 : decode cX3_copied 86 = .ok (.iload 5, 2) := by decide +kernel
theorem dX3_copied_88 : decode cX3_copied 88 = .ok (.iaload, 1) := by decide +kernel
theorem dX3_copied_89 : decode cX3_copied 89 = .ok (.ishl, 1) := by decide +kernel
theorem dX3_copied_90 : decode cX3_copied 90 = .ok (.ior, 1) := by decide +kernel
theorem dX3_copied_91 : decode cX3_copied 91 = .ok (.istore 4, 2) := by decide +kernel
theorem dX3_copied_93 : decode cX3_copied 93 = .ok (.iinc 5 1, 3) := by decide +kernel
theorem dX3_copied_96 : decode cX3_copied 96 = .ok (.goto (-76), 3) := by decide +kernel
theorem dX3_copied_99 : decode cX3_copied 99 = .ok (.iload 4, 2) := by decide +kernel
theorem dX3_copied_101 : decode cX3_copied 101 = .ok (.ireturn, 1) := by decide +kernel
theorem b_X3_copied_0 {i : Nat} {j : Nat} {x2 : Int} {σ : St} {Q : Res → St → Prop} (h : (0 ≤ x2 ∧ x2 < 10) ∧ ((0 ≤ x2 ∧ x2 < 10) ∧ (WP mX3_copied 20 [vR 4 i, vR 10 j, vI x2, vI (σ 25 i x2.toNat), vI (shl 1 (σ 24 i x2.toNat)), vI 0] [] σ Q))) : WP mX3_copied 0 [vR 4 i, vR 10 j, vI x2, vU, vU, vU] [] σ Q := by
  refine wp_aload_n dX3_copied_0 rfl rfl ?_
  refine wp_getR dX3_copied_1 fl_CustomValley_Replies_19 rfl rfl ?_
  refine wp_iload_n dX3_copied_4 rfl rfl ?_
  have s2 := h.1
  replace h := h.2
  refine wp_iaload dX3_copied_5 rfl rfl s2.1 s2.2 ?_
  refine wp_istore_n dX3_copied_6 rfl (by decide) rfl rfl ?_
  refine wp_iconst dX3_copied_7 rfl ?_
  refine wp_aload_n dX3_copied_8 rfl rfl ?_
  refine wp_getR dX3_copied_9 fl_CustomValley_Replies_15 rfl rfl ?_
  refine wp_iload_n dX3_copied_12 rfl rfl ?_
  have s1 := h.1
  replace h := h.2
  refine wp_iaload dX3_copied_13 rfl rfl s1.1 s1.2 ?_
  refine wp_ishl dX3_copied_14 ?_
  refine wp_istore dX3_copied_15 (by decide) rfl rfl ?_
  refine wp_iconst dX3_copied_17 rfl ?_
  refine wp_istore dX3_copied_18 (by decide) rfl rfl ?_
  exact h
theorem b_X3_copied_20 {i : Nat} {j : Nat} {x2 : Int} {x3 : Int} {x4 : Int} {x5 : Int} {σ : St} {Q : Res → St → Prop} (h : (((σ 10 j 0) ≤ x5) → (Q (.inl (some (vI x4))) σ)) ∧ ((x5 < (σ 10 j 0)) → ((0 ≤ x2 ∧ x2 < 10) ∧ ((((band (shr (σ 56 j x2.toNat) x5) 1) ≠ 0) → ((0 ≤ x5 ∧ x5 < 10) ∧ ((((σ 25 i x5.toNat) ≤ x3) → (WP mX3_copied 68 [vR 4 i, vR 10 j, vI x2, vI x3, vI x4, vI x5] [] σ Q)) ∧ ((x3 < (σ 25 i x5.toNat)) → ((0 ≤ x5 ∧ x5 < 10) ∧ (WP mX3_copied 68 [vR 4 i, vR 10 j, vI x2, vI (σ 25 i x5.toNat), vI 0, vI x5] [] σ Q)))))) ∧ (((band (shr (σ 56 j x2.toNat) x5) 1) = 0) → ((in32 (x5 + 1)) ∧ (WP mX3_copied 20 [vR 4 i, vR 10 j, vI x2, vI x3, vI x4, vI (x5 + 1)] [] σ Q))))))) : WP mX3_copied 20 [vR 4 i, vR 10 j, vI x2, vI x3, vI x4, vI x5] [] σ Q := by
  refine wp_iload dX3_copied_20 rfl ?_
  refine wp_aload_n dX3_copied_22 rfl rfl ?_
  refine wp_getI dX3_copied_23 fl_CustomValley_Replies_38 rfl rfl rfl ?_
  refine wp_icmp_ge (tgt := 99) dX3_copied_26 (by decide) (fun hc => ?_) (fun hc => ?_)
  · replace h := h.1 hc
    refine wp_iload dX3_copied_99 rfl ?_
    exact wp_iret dX3_copied_101 rfl h
  · replace h := h.2 hc
    refine wp_aload_n dX3_copied_29 rfl rfl ?_
    refine wp_getR dX3_copied_30 fl_CustomValley_Replies_61 rfl rfl ?_
    refine wp_iload_n dX3_copied_33 rfl rfl ?_
    have s4 := h.1
    replace h := h.2
    refine wp_iaload dX3_copied_34 rfl rfl s4.1 s4.2 ?_
    refine wp_iload dX3_copied_35 rfl ?_
    refine wp_ishr dX3_copied_37 ?_
    refine wp_iconst dX3_copied_38 rfl ?_
    refine wp_iand dX3_copied_39 ?_
    refine wp_if_ne (tgt := 46) dX3_copied_40 (by decide) (fun hc => ?_) (fun hc => ?_)
    · replace h := h.1 hc
      refine wp_aload_n dX3_copied_46 rfl rfl ?_
      refine wp_getR dX3_copied_47 fl_CustomValley_Replies_19 rfl rfl ?_
      refine wp_iload dX3_copied_50 rfl ?_
      have s2 := h.1
      replace h := h.2
      refine wp_iaload dX3_copied_52 rfl rfl s2.1 s2.2 ?_
      refine wp_iload_n dX3_copied_53 rfl rfl ?_
      refine wp_icmp_le (tgt := 68) dX3_copied_54 (by decide) (fun hc => ?_) (fun hc => ?_)
      · replace h := h.1 hc
        exact h
      · replace h := h.2 hc
        refine wp_aload_n dX3_copied_57 rfl rfl ?_
        refine wp_getR dX3_copied_58 fl_CustomValley_Replies_19 rfl rfl ?_
        refine wp_iload dX3_copied_61 rfl ?_
        have s1 := h.1
        replace h := h.2
        refine wp_iaload dX3_copied_63 rfl rfl s1.1 s1.2 ?_
        refine wp_istore_n dX3_copied_64 rfl (by decide) rfl rfl ?_
        refine wp_iconst dX3_copied_65 rfl ?_
        refine wp_istore dX3_copied_66 (by decide) rfl rfl ?_
        exact h
    · replace h := h.2 hc
      refine wp_goto (tgt := 93) dX3_copied_43 (by decide) ?_
      have s3 := h.1
      replace h := h.2
      refine wp_iinc dX3_copied_93 rfl (by decide) rfl rfl ?_ (h1 := s3.1) (h2 := s3.2)
      refine wp_goto (tgt := 20) dX3_copied_96 (by decide) ?_
      exact h
theorem b_X3_copied_68 {i : Nat} {j : Nat} {x2 : Int} {x3 : Int} {x4 : Int} {x5 : Int} {σ : St} {Q : Res → St → Prop} (h : (0 ≤ x5 ∧ x5 < 10) ∧ ((((σ 25 i x5.toNat) ≠ x3) → ((in32 (x5 + 1)) ∧ (WP mX3_copied 20 [vR 4 i, vR 10 j, vI x2, vI x3, vI x4, vI (x5 + 1)] [] σ Q))) ∧ (((σ 25 i x5.toNat) = x3) → ((0 ≤ x5 ∧ x5 < 10) ∧ ((in32 (x5 + 1)) ∧ (WP mX3_copied 20 [vR 4 i, vR 10 j, vI x2, vI x3, vI (bor x4 (shl 1 (σ 24 i x5.toNat))), vI (x5 + 1)] [] σ Q)))))) : WP mX3_copied 68 [vR 4 i, vR 10 j, vI x2, vI x3, vI x4, vI x5] [] σ Q := by
  refine wp_aload_n dX3_copied_68 rfl rfl ?_
  refine wp_getR dX3_copied_69 fl_CustomValley_Replies_19 rfl rfl ?_
  refine wp_iload dX3_copied_72 rfl ?_
  have s4 := h.1
  replace h := h.2
  refine wp_iaload dX3_copied_74 rfl rfl s4.1 s4.2 ?_
  refine wp_iload_n dX3_copied_75 rfl rfl ?_
  refine wp_icmp_ne (tgt := 93) dX3_copied_76 (by decide) (fun hc => ?_) (fun hc => ?_)
  · replace h := h.1 hc
    have s1 := h.1
    replace h := h.2
    refine wp_iinc dX3_copied_93 rfl (by decide) rfl rfl ?_ (h1 := s1.1) (h2 := s1.2)
    refine wp_goto (tgt := 20) dX3_copied_96 (by decide) ?_
    exact h
  · replace h := h.2 hc
    refine wp_iload dX3_copied_79 rfl ?_
    refine wp_iconst dX3_copied_81 rfl ?_
    refine wp_aload_n dX3_copied_82 rfl rfl ?_
    refine wp_getR dX3_copied_83 fl_CustomValley_Replies_15 rfl rfl ?_
    refine wp_iload dX3_copied_86 rfl ?_
    have s3 := h.1
    replace h := h.2
    refine wp_iaload dX3_copied_88 rfl rfl s3.1 s3.2 ?_
    refine wp_ishl dX3_copied_89 ?_
    refine wp_ior dX3_copied_90 ?_
    refine wp_istore dX3_copied_91 (by decide) rfl rfl ?_
    have s2 := h.1
    replace h := h.2
    refine wp_iinc dX3_copied_93 rfl (by decide) rfl rfl ?_ (h1 := s2.1) (h2 := s2.2)
    refine wp_goto (tgt := 20) dX3_copied_96 (by decide) ?_
    exact h
theorem dX3_countMet_0 : decode cX3_countMet 0 = .ok (.iconst 0, 1) := by decide +kernel
theorem dX3_countMet_1 : decode cX3_countMet 1 = .ok (.istore_n 3, 1) := by decide +kernel
theorem dX3_countMet_2 : decode cX3_countMet 2 = .ok (.iload_n 3, 1) := by decide +kernel
theorem dX3_countMet_3 : decode cX3_countMet 3 = .ok (.aload_n 1, 1) := by decide +kernel
theorem dX3_countMet_4 : decode cX3_countMet 4 = .ok (.getfield 58, 3) := by decide +kernel
theorem dX3_countMet_7 : decode cX3_countMet 7 = .ok (.if_icmp .ge 16, 3) := by decide +kernel
theorem dX3_countMet_10 : decode cX3_countMet 10 = .ok (.aload_n 0, 1) := by decide +kernel
theorem dX3_countMet_11 : decode cX3_countMet 11 = .ok (.getfield 22, 3) := by decide +kernel
theorem dX3_countMet_14 : decode cX3_countMet 14 = .ok (.iload_n 3, 1) := by decide +kernel
theorem dX3_countMet_15 : decode cX3_countMet 15 = .ok (.iconst 0, 1) := by decide +kernel
theorem dX3_countMet_16 : decode cX3_countMet 16 = .ok (.iastore, 1) := by decide +kernel
theorem dX3_countMet_17 : decode cX3_countMet 17 = .ok (.iinc 3 1, 3) := by decide +kernel
theorem dX3_countMet_20 : decode cX3_countMet 20 = .ok (.goto (-18), 3) := by decide +kernel
theorem dX3_countMet_23 : decode cX3_countMet 23 = .ok (.iconst 0, 1) := by decide +kernel
theorem dX3_countMet_24 : decode cX3_countMet 24 = .ok (.istore_n 3, 1) := by decide +kernel
theorem dX3_countMet_25 : decode cX3_countMet 25 = .ok (.iload_n 3, 1) := by decide +kernel
theorem dX3_countMet_26 : decode cX3_countMet 26 = .ok (.aload_n 1, 1) := by decide +kernel
theorem dX3_countMet_27 : decode cX3_countMet 27 = .ok (.getfield 38, 3) := by decide +kernel
theorem dX3_countMet_30 : decode cX3_countMet 30 = .ok (.if_icmp .ge 37, 3) := by decide +kernel
theorem dX3_countMet_33 : decode cX3_countMet 33 = .ok (.aload_n 1, 1) := by decide +kernel
theorem dX3_countMet_34 : decode cX3_countMet 34 = .ok (.getfield 61, 3) := by decide +kernel
theorem dX3_countMet_37 : decode cX3_countMet 37 = .ok (.iload_n 2, 1) := by decide +kernel
theorem dX3_countMet_38 : decode cX3_countMet 38 = .ok (.iaload, 1) := by decide +kernel
theorem dX3_countMet_39 : decode cX3_countMet 39 = .ok (.iload_n 3, 1) := by decide +kernel
theorem dX3_countMet_40 : decode cX3_countMet 40 = .ok (.ishr, 1) := by decide +kernel
theorem dX3_countMet_41 : decode cX3_countMet 41 = .ok (.iconst 1, 1) := by decide +kernel
theorem dX3_countMet_42 : decode cX3_countMet 42 = .ok (.iand, 1) := by decide +kernel
theorem dX3_countMet_43 : decode cX3_countMet 43 = .ok (.ifCond .eq 18, 3) := by decide +kernel
theorem dX3_countMet_46 : decode cX3_countMet 46 = .ok (.aload_n 0, 1) := by decide +kernel
theorem dX3_countMet_47 : decode cX3_countMet 47 = .ok (.getfield 22, 3) := by decide +kernel
theorem dX3_countMet_50 : decode cX3_countMet 50 = .ok (.aload_n 0, 1) := by decide +kernel
theorem dX3_countMet_51 : decode cX3_countMet 51 = .ok (.getfield 15, 3) := by decide +kernel
theorem dX3_countMet_54 : decode cX3_countMet 54 = .ok (.iload_n 3, 1) := by decide +kernel
theorem dX3_countMet_55 : decode cX3_countMet 55 = .ok (.iaload, 1) := by decide +kernel
theorem dX3_countMet_56 : decode cX3_countMet 56 = .ok (.dup2, 1) := by decide +kernel
theorem dX3_countMet_57 : decode cX3_countMet 57 = .ok (.iaload, 1) := by decide +kernel
theorem dX3_countMet_58 : decode cX3_countMet 58 = .ok (.iconst 1, 1) := by decide +kernel
theorem dX3_countMet_59 : decode cX3_countMet 59 = .ok (.iadd, 1) := by decide +kernel
theorem dX3_countMet_60 : decode cX3_countMet 60 = .ok (.iastore, 1) := by decide +kernel
theorem dX3_countMet_61 : decode cX3_countMet 61 = .ok (.iinc 3 1, 3) := by decide +kernel
theorem dX3_countMet_64 : decode cX3_countMet 64 = .ok (.goto (-39), 3) := by decide +kernel
theorem dX3_countMet_67 : decode cX3_countMet 67 = .ok (.return_, 1) := by decide +kernel
theorem b_X3_countMet_0 {i : Nat} {j : Nat} {x2 : Int} {σ : St} {Q : Res → St → Prop} (h : WP mX3_countMet 2 [vR 4 i, vR 10 j, vI x2, vI 0] [] σ Q) : WP mX3_countMet 0 [vR 4 i, vR 10 j, vI x2, vU] [] σ Q := by
  refine wp_iconst dX3_countMet_0 rfl ?_
  refine wp_istore_n dX3_countMet_1 rfl (by decide) rfl rfl ?_
  exact h
theorem b_X3_countMet_2 {i : Nat} {j : Nat} {x2 : Int} {x3 : Int} {σ : St} {Q : Res → St → Prop} (h : (((σ 10 j 1) ≤ x3) → (WP mX3_countMet 25 [vR 4 i, vR 10 j, vI x2, vI 0] [] σ Q)) ∧ ((x3 < (σ 10 j 1)) → ((0 ≤ x3 ∧ x3 < 4) ∧ ((in32 (x3 + 1)) ∧ (WP mX3_countMet 2 [vR 4 i, vR 10 j, vI x2, vI (x3 + 1)] [] (up σ 26 i x3.toNat 0) Q))))) : WP mX3_countMet 2 [vR 4 i, vR 10 j, vI x2, vI x3] [] σ Q := by
  refine wp_iload_n dX3_countMet_2 rfl rfl ?_
  refine wp_aload_n dX3_countMet_3 rfl rfl ?_
  refine wp_getI dX3_countMet_4 fl_CustomValley_Replies_58 rfl rfl rfl ?_
  refine wp_icmp_ge (tgt := 23) dX3_countMet_7 (by decide) (fun hc => ?_) (fun hc => ?_)
  · replace h := h.1 hc
    refine wp_iconst dX3_countMet_23 rfl ?_
    refine wp_istore_n dX3_countMet_24 rfl (by decide) rfl rfl ?_
    exact h
  · replace h := h.2 hc
    refine wp_aload_n dX3_countMet_10 rfl rfl ?_
    refine wp_getR dX3_countMet_11 fl_CustomValley_Replies_22 rfl rfl ?_
    refine wp_iload_n dX3_countMet_14 rfl rfl ?_
    refine wp_iconst dX3_countMet_15 rfl ?_
    have s2 := h.1
    replace h := h.2
    refine wp_iastore dX3_countMet_16 rfl rfl s2.1 s2.2 ?_
    have s1 := h.1
    replace h := h.2
    refine wp_iinc dX3_countMet_17 rfl (by decide) rfl rfl ?_ (h1 := s1.1) (h2 := s1.2)
    refine wp_goto (tgt := 2) dX3_countMet_20 (by decide) ?_
    exact h
theorem b_X3_countMet_25 {i : Nat} {j : Nat} {x2 : Int} {x3 : Int} {σ : St} {Q : Res → St → Prop} (h : (((σ 10 j 0) ≤ x3) → (Q (.inl none) σ)) ∧ ((x3 < (σ 10 j 0)) → ((0 ≤ x2 ∧ x2 < 10) ∧ ((((band (shr (σ 56 j x2.toNat) x3) 1) = 0) → ((in32 (x3 + 1)) ∧ (WP mX3_countMet 25 [vR 4 i, vR 10 j, vI x2, vI (x3 + 1)] [] σ Q))) ∧ (((band (shr (σ 56 j x2.toNat) x3) 1) ≠ 0) → ((0 ≤ x3 ∧ x3 < 10) ∧ ((0 ≤ σ 24 i x3.toNat ∧ (σ 24 i x3.toNat) < 4) ∧ ((in32 ((σ 26 i ((σ 24 i x3.toNat).toNat)) + 1)) ∧ ((0 ≤ σ 24 i x3.toNat ∧ (σ 24 i x3.toNat) < 4) ∧ ((in32 (x3 + 1)) ∧ (WP mX3_countMet 25 [vR 4 i, vR 10 j, vI x2, vI (x3 + 1)] [] (up σ 26 i ((σ 24 i x3.toNat).toNat) ((σ 26 i ((σ 24 i x3.toNat).toNat)) + 1)) Q))))))))))) : WP mX3_countMet 25 [vR 4 i, vR 10 j, vI x2, vI x3] [] σ Q := by
  refine wp_iload_n dX3_countMet_25 rfl rfl ?_
  refine wp_aload_n dX3_countMet_26 rfl rfl ?_
  refine wp_getI dX3_countMet_27 fl_CustomValley_Replies_38 rfl rfl rfl ?_
  refine wp_icmp_ge (tgt := 67) dX3_countMet_30 (by decide) (fun hc => ?_) (fun hc => ?_)
  · replace h := h.1 hc
    exact wp_ret dX3_countMet_67 rfl h
  · replace h := h.2 hc
    refine wp_aload_n dX3_countMet_33 rfl rfl ?_
    refine wp_getR dX3_countMet_34 fl_CustomValley_Replies_61 rfl rfl ?_
    refine wp_iload_n dX3_countMet_37 rfl rfl ?_
    have s7 := h.1
    replace h := h.2
    refine wp_iaload dX3_countMet_38 rfl rfl s7.1 s7.2 ?_
    refine wp_iload_n dX3_countMet_39 rfl rfl ?_
    refine wp_ishr dX3_countMet_40 ?_
    refine wp_iconst dX3_countMet_41 rfl ?_
    refine wp_iand dX3_countMet_42 ?_
    refine wp_if_eq (tgt := 61) dX3_countMet_43 (by decide) (fun hc => ?_) (fun hc => ?_)
    · replace h := h.1 hc
      have s1 := h.1
      replace h := h.2
      refine wp_iinc dX3_countMet_61 rfl (by decide) rfl rfl ?_ (h1 := s1.1) (h2 := s1.2)
      refine wp_goto (tgt := 25) dX3_countMet_64 (by decide) ?_
      exact h
    · replace h := h.2 hc
      refine wp_aload_n dX3_countMet_46 rfl rfl ?_
      refine wp_getR dX3_countMet_47 fl_CustomValley_Replies_22 rfl rfl ?_
      refine wp_aload_n dX3_countMet_50 rfl rfl ?_
      refine wp_getR dX3_countMet_51 fl_CustomValley_Replies_15 rfl rfl ?_
      refine wp_iload_n dX3_countMet_54 rfl rfl ?_
      have s6 := h.1
      replace h := h.2
      refine wp_iaload dX3_countMet_55 rfl rfl s6.1 s6.2 ?_
      refine wp_dup2 dX3_countMet_56 ?_
      have s5 := h.1
      replace h := h.2
      refine wp_iaload dX3_countMet_57 rfl rfl s5.1 s5.2 ?_
      refine wp_iconst dX3_countMet_58 rfl ?_
      have s4 := h.1
      replace h := h.2
      refine wp_iadd dX3_countMet_59 ?_ (h1 := s4.1) (h2 := s4.2)
      have s3 := h.1
      replace h := h.2
      refine wp_iastore dX3_countMet_60 rfl rfl s3.1 s3.2 ?_
      have s2 := h.1
      replace h := h.2
      refine wp_iinc dX3_countMet_61 rfl (by decide) rfl rfl ?_ (h1 := s2.1) (h2 := s2.2)
      refine wp_goto (tgt := 25) dX3_countMet_64 (by decide) ?_
      exact h
theorem dX3_pays_0 : decode cX3_pays 0 = .ok (.iconst 0, 1) := by decide +kernel
theorem dX3_pays_1 : decode cX3_pays 1 = .ok (.istore_n 3, 1) := by decide +kernel
theorem dX3_pays_2 : decode cX3_pays 2 = .ok (.iconst 0, 1) := by decide +kernel
theorem dX3_pays_3 : decode cX3_pays 3 = .ok (.istore 4, 2) := by decide +kernel
theorem dX3_pays_5 : decode cX3_pays 5 = .ok (.iload 4, 2) := by decide +kernel
theorem dX3_pays_7 : decode cX3_pays 7 = .ok (.aload_n 1, 1) := by decide +kernel
theorem dX3_pays_8 : decode cX3_pays 8 = .ok (.getfield 58, 3) := by decide +kernel
theorem dX3_pays_11 : decode cX3_pays 11 = .ok (.if_icmp .ge 31, 3) := by decide +kernel
theorem dX3_pays_14 : decode cX3_pays 14 = .ok (.iload_n 3, 1) := by decide +kernel
theorem dX3_pays_15 : decode cX3_pays 15 = .ok (.aload_n 0, 1) := by decide +kernel
theorem dX3_pays_16 : decode cX3_pays 16 = .ok (.getfield 22, 3) := by decide +kernel
theorem dX3_pays_19 : decode cX3_pays 19 = .ok (.iload 4, 2) := by decide +kernel
theorem dX3_pays_21 : decode cX3_pays 21 = .ok (.iaload, 1) := by decide +kernel
theorem dX3_pays_22 : decode cX3_pays 22 = .ok (.aload_n 1, 1) := by decide +kernel
theorem dX3_pays_23 : decode cX3_pays 23 = .ok (.getfield 64, 3) := by decide +kernel
theorem dX3_pays_26 : decode cX3_pays 26 = .ok (.iload_n 2, 1) := by decide +kernel
theorem dX3_pays_27 : decode cX3_pays 27 = .ok (.iconst 4, 1) := by decide +kernel
theorem dX3_pays_28 : decode cX3_pays 28 = .ok (.imul, 1) := by decide +kernel
theorem dX3_pays_29 : decode cX3_pays 29 = .ok (.iload 4, 2) := by decide +kernel
theorem dX3_pays_31 : decode cX3_pays 31 = .ok (.iadd, 1) := by decide +kernel
theorem dX3_pays_32 : decode cX3_pays 32 = .ok (.iaload, 1) := by decide +kernel
theorem dX3_pays_33 : decode cX3_pays 33 = .ok (.imul, 1) := by decide +kernel
theorem dX3_pays_34 : decode cX3_pays 34 = .ok (.iadd, 1) := by decide +kernel
theorem dX3_pays_35 : decode cX3_pays 35 = .ok (.istore_n 3, 1) := by decide +kernel
theorem dX3_pays_36 : decode cX3_pays 36 = .ok (.iinc 4 1, 3) := by decide +kernel
theorem dX3_pays_39 : decode cX3_pays 39 = .ok (.goto (-34), 3) := by decide +kernel
theorem dX3_pays_42 : decode cX3_pays 42 = .ok (.iload_n 3, 1) := by decide +kernel
theorem dX3_pays_43 : decode cX3_pays 43 = .ok (.ireturn, 1) := by decide +kernel
theorem b_X3_pays_0 {i : Nat} {j : Nat} {x2 : Int} {σ : St} {Q : Res → St → Prop} (h : WP mX3_pays 5 [vR 4 i, vR 10 j, vI x2, vI 0, vI 0] [] σ Q) : WP mX3_pays 0 [vR 4 i, vR 10 j, vI x2, vU, vU] [] σ Q := by
  refine wp_iconst dX3_pays_0 rfl ?_
  refine wp_istore_n dX3_pays_1 rfl (by decide) rfl rfl ?_
  refine wp_iconst dX3_pays_2 rfl ?_
  refine wp_istore dX3_pays_3 (by decide) rfl rfl ?_
  exact h
theorem b_X3_pays_5 {i : Nat} {j : Nat} {x2 : Int} {x3 : Int} {x4 : Int} {σ : St} {Q : Res → St → Prop} (h : (((σ 10 j 1) ≤ x4) → (Q (.inl (some (vI x3))) σ)) ∧ ((x4 < (σ 10 j 1)) → ((0 ≤ x4 ∧ x4 < 4) ∧ ((in32 (x2 * 4)) ∧ ((in32 ((x2 * 4) + x4)) ∧ ((0 ≤ (x2 * 4) + x4 ∧ ((x2 * 4) + x4) < 16) ∧ ((in32 ((σ 26 i x4.toNat) * (σ 54 j (((x2 * 4) + x4).toNat)))) ∧ ((in32 (x3 + ((σ 26 i x4.toNat) * (σ 54 j (((x2 * 4) + x4).toNat))))) ∧ ((in32 (x4 + 1)) ∧ (WP mX3_pays 5 [vR 4 i, vR 10 j, vI x2, vI (x3 + ((σ 26 i x4.toNat) * (σ 54 j (((x2 * 4) + x4).toNat)))), vI (x4 + 1)] [] σ Q)))))))))) : WP mX3_pays 5 [vR 4 i, vR 10 j, vI x2, vI x3, vI x4] [] σ Q := by
  refine wp_iload dX3_pays_5 rfl ?_
  refine wp_aload_n dX3_pays_7 rfl rfl ?_
  refine wp_getI dX3_pays_8 fl_CustomValley_Replies_58 rfl rfl rfl ?_
  refine wp_icmp_ge (tgt := 42) dX3_pays_11 (by decide) (fun hc => ?_) (fun hc => ?_)
  · replace h := h.1 hc
    refine wp_iload_n dX3_pays_42 rfl rfl ?_
    exact wp_iret dX3_pays_43 rfl h
  · replace h := h.2 hc
    refine wp_iload_n dX3_pays_14 rfl rfl ?_
    refine wp_aload_n dX3_pays_15 rfl rfl ?_
    refine wp_getR dX3_pays_16 fl_CustomValley_Replies_22 rfl rfl ?_
    refine wp_iload dX3_pays_19 rfl ?_
    have s7 := h.1
    replace h := h.2
    refine wp_iaload dX3_pays_21 rfl rfl s7.1 s7.2 ?_
    refine wp_aload_n dX3_pays_22 rfl rfl ?_
    refine wp_getR dX3_pays_23 fl_CustomValley_Replies_64 rfl rfl ?_
    refine wp_iload_n dX3_pays_26 rfl rfl ?_
    refine wp_iconst dX3_pays_27 rfl ?_
    have s6 := h.1
    replace h := h.2
    refine wp_imul dX3_pays_28 ?_ (h1 := s6.1) (h2 := s6.2)
    refine wp_iload dX3_pays_29 rfl ?_
    have s5 := h.1
    replace h := h.2
    refine wp_iadd dX3_pays_31 ?_ (h1 := s5.1) (h2 := s5.2)
    have s4 := h.1
    replace h := h.2
    refine wp_iaload dX3_pays_32 rfl rfl s4.1 s4.2 ?_
    have s3 := h.1
    replace h := h.2
    refine wp_imul dX3_pays_33 ?_ (h1 := s3.1) (h2 := s3.2)
    have s2 := h.1
    replace h := h.2
    refine wp_iadd dX3_pays_34 ?_ (h1 := s2.1) (h2 := s2.2)
    refine wp_istore_n dX3_pays_35 rfl (by decide) rfl rfl ?_
    have s1 := h.1
    replace h := h.2
    refine wp_iinc dX3_pays_36 rfl (by decide) rfl rfl ?_ (h1 := s1.1) (h2 := s1.2)
    refine wp_goto (tgt := 5) dX3_pays_39 (by decide) ?_
    exact h
theorem dX3_greatest_0 : decode cX3_greatest 0 = .ok (.aload_n 0, 1) := by decide +kernel
theorem dX3_greatest_1 : decode cX3_greatest 1 = .ok (.aload_n 1, 1) := by decide +kernel
theorem dX3_greatest_2 : decode cX3_greatest 2 = .ok (.iload_n 2, 1) := by decide +kernel
theorem dX3_greatest_3 : decode cX3_greatest 3 = .ok (.invokevirtual 52, 3) := by decide +kernel
theorem dX3_greatest_6 : decode cX3_greatest 6 = .ok (.iconst (-1), 1) := by decide +kernel
theorem dX3_greatest_7 : decode cX3_greatest 7 = .ok (.istore_n 3, 1) := by decide +kernel
theorem dX3_greatest_8 : decode cX3_greatest 8 = .ok (.iconst 0, 1) := by decide +kernel
theorem dX3_greatest_9 : decode cX3_greatest 9 = .ok (.istore 4, 2) := by decide +kernel
theorem dX3_greatest_11 : decode cX3_greatest 11 = .ok (.iconst 0, 1) := by decide +kernel
theorem dX3_greatest_12 : decode cX3_greatest 12 = .ok (.istore 5, 2) := by decide +kernel
theorem dX3_greatest_14 : decode cX3_greatest 14 = .ok (.iload 5, 2) := by decide +kernel
theorem dX3_greatest_16 : decode cX3_greatest 16 = .ok (.aload_n 1, 1) := by decide +kernel
theorem dX3_greatest_17 : decode cX3_greatest 17 = .ok (.getfield 58, 3) := by decide +kernel
theorem dX3_greatest_20 : decode cX3_greatest 20 = .ok (.if_icmp .ge 62, 3) := by decide +kernel
theorem dX3_greatest_23 : decode cX3_greatest 23 = .ok (.aload_n 1, 1) := by decide +kernel
theorem dX3_greatest_24 : decode cX3_greatest 24 = .ok (.getfield 49, 3) := by decide +kernel
theorem dX3_greatest_27 : decode cX3_greatest 27 = .ok (.ifCond .ne 13, 3) := by decide +kernel
theorem dX3_greatest_30 : decode cX3_greatest 30 = .ok (.aload_n 0, 1) := by decide +kernel
theorem dX3_greatest_31 : decode cX3_greatest 31 = .ok (.aload_n 1, 1) := by decide +kernel
theorem dX3_greatest_32 : decode cX3_greatest 32 = .ok (.iload 5, 2) := by decide +kernel
theorem dX3_greatest_34 : decode cX3_greatest 34 = .ok (.invokevirtual 55, 3) := by decide +kernel
theorem dX3_greatest_37 : decode cX3_greatest 37 = .ok (.goto 10, 3) := by decide +kernel
theorem dX3_greatest_40 : decode cX3_greatest 40 = .ok (.aload_n 0, 1) := by decide +kernel
theorem dX3_greatest_41 : decode cX3_greatest 41 = .ok (.getfield 22, 3) := by decide +kernel
theorem dX3_greatest_44 : decode cX3_greatest 44 = .ok (.iload 5, 2) := by decide +kernel
theorem dX3_greatest_46 : decode cX3_greatest 46 = .ok (.iaload, 1) := by decide +kernel
theorem dX3_greatest_47 : decode cX3_greatest 47 = .ok (.istore 6, 2) := by decide +kernel
theorem dX3_greatest_49 : decode cX3_greatest 49 = .ok (.iload 6, 2) := by decide +kernel
theorem dX3_greatest_51 : decode cX3_greatest 51 = .ok (.iload_n 3, 1) := by decide +kernel
theorem dX3_greatest_52 : decode cX3_greatest 52 = .ok (.if_icmp .le 9, 3) := by decide +kernel
theorem dX3_greatest_55 : decode cX3_greatest 55 = .ok (.iload 6, 2) := by decide +kernel
theorem dX3_greatest_57 : decode cX3_greatest 57 = .ok (.istore_n 3, 1) := by decide +kernel
theorem dX3_greatest_58 : decode cX3_greatest 58 = .ok (.iconst 0, 1) := by decide +kernel
theorem dX3_greatest_59 : decode cX3_greatest 59 = .ok (.istore 4, 2) := by decide +kernel
theorem dX3_greatest_61 : decode cX3_greatest 61 = .ok (.iload 6, 2) := by decide +kernel
theorem dX3_greatest_63 : decode cX3_greatest 63 = .ok (.iload_n 3, 1) := by decide +kernel
theorem dX3_greatest_64 : decode cX3_greatest 64 = .ok (.if_icmp .ne 12, 3) := by decide +kernel
theorem dX3_greatest_67 : decode cX3_greatest 67 = .ok (.iload 4, 2) := by decide +kernel
theorem dX3_greatest_69 : decode cX3_greatest 69 = .ok (.iconst 1, 1) := by decide +kernel
theorem dX3_greatest_70 : decode cX3_greatest 70 = .ok (.iload 5, 2) := by decide +kernel
theorem dX3_greatest_72 : decode cX3_greatest 72 = .ok (.ishl, 1) := by decide +kernel
theorem dX3_greatest_73 : decode cX3_greatest 73 = .ok (.ior, 1) := by decide +kernel
theorem dX3_greatest_74 : decode cX3_greatest 74 = .ok (.istore 4, 2) := by decide +kernel
theorem dX3_greatest_76 : decode cX3_greatest 76 = .ok (.iinc 5 1, 3) := by decide +kernel
theorem dX3_greatest_79 : decode cX3_greatest 79 = .ok (.goto (-65), 3) := by decide +kernel
theorem dX3_greatest_82 : decode cX3_greatest 82 = .ok (.iload 4, 2) := by decide +kernel
theorem dX3_greatest_84 : decode cX3_greatest 84 = .ok (.ireturn, 1) := by decide +kernel
theorem b_X3_greatest_0 {i : Nat} {j : Nat} {x2 : Int} {σ : St} {Q : Res → St → Prop} (h : WP mX3_countMet 0 [vR 4 i, vR 10 j, vI x2, vU] [] σ (CT mX3_greatest 6 [vR 4 i, vR 10 j, vU, vU, vU, vU, vU] [] Q)) : WP mX3_greatest 0 [vR 4 i, vR 10 j, vI x2, vU, vU, vU, vU] [] σ Q := by
  refine wp_aload_n dX3_greatest_0 rfl rfl ?_
  refine wp_aload_n dX3_greatest_1 rfl rfl ?_
  refine wp_iload_n dX3_greatest_2 rfl rfl ?_
  refine wp_invV (N := mX3_countMet) [vR 10 j, vI x2] dX3_greatest_3 ml_CustomValley_Replies_52 mvX3_countMet rfl rfl rfl rfl rfl (Nat.le_of_ble_eq_true rfl) (Nat.le_of_ble_eq_true rfl) (by decide) (by decide) (by decide) ?_
  exact WP.mono h (ct_drop (lle_c (Or.inl rfl) (lle_c (Or.inl rfl) (lle_c (Or.inr rfl) (lle_c (Or.inl rfl) (lle_c (Or.inl rfl) (lle_c (Or.inl rfl) (lle_c (Or.inl rfl) lle_n))))))))
theorem b_X3_greatest_6 {i : Nat} {j : Nat} {σ : St} {Q : Res → St → Prop} (h : WP mX3_greatest 14 [vR 4 i, vR 10 j, vU, vI (-1), vI 0, vI 0, vU] [] σ Q) : WP mX3_greatest 6 [vR 4 i, vR 10 j, vU, vU, vU, vU, vU] [] σ Q := by
  refine wp_iconst dX3_greatest_6 rfl ?_
  refine wp_istore_n dX3_greatest_7 rfl (by decide) rfl rfl ?_
  refine wp_iconst dX3_greatest_8 rfl ?_
  refine wp_istore dX3_greatest_9 (by decide) rfl rfl ?_
  refine wp_iconst dX3_greatest_11 rfl ?_
  refine wp_istore dX3_greatest_12 (by decide) rfl rfl ?_
  exact h
theorem b_X3_greatest_14 {i : Nat} {j : Nat} {x3 : Int} {x4 : Int} {x5 : Int} {σ : St} {Q : Res → St → Prop} (h : (((σ 10 j 1) ≤ x5) → (Q (.inl (some (vI x4))) σ)) ∧ ((x5 < (σ 10 j 1)) → ((((σ 10 j 2) ≠ 0) → ((0 ≤ x5 ∧ x5 < 4) ∧ (WP mX3_greatest 47 [vR 4 i, vR 10 j, vU, vI x3, vI x4, vI x5, vU] [vI (σ 26 i x5.toNat)] σ Q))) ∧ (((σ 10 j 2) = 0) → (WP mX3_pays 0 [vR 4 i, vR 10 j, vI x5, vU, vU] [] σ (CT mX3_greatest 37 [vR 4 i, vR 10 j, vU, vI x3, vI x4, vI x5, vU] [] Q)))))) : WP mX3_greatest 14 [vR 4 i, vR 10 j, vU, vI x3, vI x4, vI x5, vU] [] σ Q := by
  refine wp_iload dX3_greatest_14 rfl ?_
  refine wp_aload_n dX3_greatest_16 rfl rfl ?_
  refine wp_getI dX3_greatest_17 fl_CustomValley_Replies_58 rfl rfl rfl ?_
  refine wp_icmp_ge (tgt := 82) dX3_greatest_20 (by decide) (fun hc => ?_) (fun hc => ?_)
  · replace h := h.1 hc
    refine wp_iload dX3_greatest_82 rfl ?_
    exact wp_iret dX3_greatest_84 rfl h
  · replace h := h.2 hc
    refine wp_aload_n dX3_greatest_23 rfl rfl ?_
    refine wp_getI dX3_greatest_24 fl_CustomValley_Replies_49 rfl rfl rfl ?_
    refine wp_if_ne (tgt := 40) dX3_greatest_27 (by decide) (fun hc => ?_) (fun hc => ?_)
    · replace h := h.1 hc
      refine wp_aload_n dX3_greatest_40 rfl rfl ?_
      refine wp_getR dX3_greatest_41 fl_CustomValley_Replies_22 rfl rfl ?_
      refine wp_iload dX3_greatest_44 rfl ?_
      have s1 := h.1
      replace h := h.2
      refine wp_iaload dX3_greatest_46 rfl rfl s1.1 s1.2 ?_
      exact h
    · replace h := h.2 hc
      refine wp_aload_n dX3_greatest_30 rfl rfl ?_
      refine wp_aload_n dX3_greatest_31 rfl rfl ?_
      refine wp_iload dX3_greatest_32 rfl ?_
      refine wp_invV (N := mX3_pays) [vR 10 j, vI x5] dX3_greatest_34 ml_CustomValley_Replies_55 mvX3_pays rfl rfl rfl rfl rfl (Nat.le_of_ble_eq_true rfl) (Nat.le_of_ble_eq_true rfl) (by decide) (by decide) (by decide) ?_
      exact h
theorem b_X3_greatest_37 {i : Nat} {j : Nat} {x3 : Int} {x4 : Int} {x5 : Int} {t0 : Int} {σ : St} {Q : Res → St → Prop} (h : WP mX3_greatest 47 [vR 4 i, vR 10 j, vU, vI x3, vI x4, vI x5, vU] [vI t0] σ Q) : WP mX3_greatest 37 [vR 4 i, vR 10 j, vU, vI x3, vI x4, vI x5, vU] [vI t0] σ Q := by
  refine wp_goto (tgt := 47) dX3_greatest_37 (by decide) ?_
  exact h
theorem b_X3_greatest_47 {i : Nat} {j : Nat} {x3 : Int} {x4 : Int} {x5 : Int} {t0 : Int} {σ : St} {Q : Res → St → Prop} (h : ((t0 ≤ x3) → (((t0 ≠ x3) → ((in32 (x5 + 1)) ∧ (WP mX3_greatest 14 [vR 4 i, vR 10 j, vU, vI x3, vI x4, vI (x5 + 1), vU] [] σ Q))) ∧ ((t0 = x3) → ((in32 (x5 + 1)) ∧ (WP mX3_greatest 14 [vR 4 i, vR 10 j, vU, vI x3, vI (bor x4 (shl 1 x5)), vI (x5 + 1), vU] [] σ Q))))) ∧ ((x3 < t0) → (((t0 ≠ t0) → ((in32 (x5 + 1)) ∧ (WP mX3_greatest 14 [vR 4 i, vR 10 j, vU, vI t0, vI 0, vI (x5 + 1), vU] [] σ Q))) ∧ ((t0 = t0) → ((in32 (x5 + 1)) ∧ (WP mX3_greatest 14 [vR 4 i, vR 10 j, vU, vI t0, vI (bor 0 (shl 1 x5)), vI (x5 + 1), vU] [] σ Q)))))) : WP mX3_greatest 47 [vR 4 i, vR 10 j, vU, vI x3, vI x4, vI x5, vU] [vI t0] σ Q := by
  refine wp_istore dX3_greatest_47 (by decide) rfl rfl ?_
  refine wp_iload dX3_greatest_49 rfl ?_
  refine wp_iload_n dX3_greatest_51 rfl rfl ?_
  refine wp_icmp_le (tgt := 61) dX3_greatest_52 (by decide) (fun hc => ?_) (fun hc => ?_)
  · replace h := h.1 hc
    refine wp_iload dX3_greatest_61 rfl ?_
    refine wp_iload_n dX3_greatest_63 rfl rfl ?_
    refine wp_icmp_ne (tgt := 76) dX3_greatest_64 (by decide) (fun hc => ?_) (fun hc => ?_)
    · replace h := h.1 hc
      have s1 := h.1
      replace h := h.2
      refine wp_iinc dX3_greatest_76 rfl (by decide) rfl rfl ?_ (h1 := s1.1) (h2 := s1.2)
      refine wp_goto (tgt := 14) dX3_greatest_79 (by decide) ?_
      exact wp_drop (als' := [vR 4 i, vR 10 j, vU, vI x3, vI x4, vI (x5 + 1), vU]) (lle_c (Or.inl rfl) (lle_c (Or.inl rfl) (lle_c (Or.inl rfl) (lle_c (Or.inl rfl) (lle_c (Or.inl rfl) (lle_c (Or.inl rfl) (lle_c (Or.inr rfl) lle_n))))))) h
    · replace h := h.2 hc
      refine wp_iload dX3_greatest_67 rfl ?_
      refine wp_iconst dX3_greatest_69 rfl ?_
      refine wp_iload dX3_greatest_70 rfl ?_
      refine wp_ishl dX3_greatest_72 ?_
      refine wp_ior dX3_greatest_73 ?_
      refine wp_istore dX3_greatest_74 (by decide) rfl rfl ?_
      have s2 := h.1
      replace h := h.2
      refine wp_iinc dX3_greatest_76 rfl (by decide) rfl rfl ?_ (h1 := s2.1) (h2 := s2.2)
      refine wp_goto (tgt := 14) dX3_greatest_79 (by decide) ?_
      exact wp_drop (als' := [vR 4 i, vR 10 j, vU, vI x3, vI (bor x4 (shl 1 x5)), vI (x5 + 1), vU]) (lle_c (Or.inl rfl) (lle_c (Or.inl rfl) (lle_c (Or.inl rfl) (lle_c (Or.inl rfl) (lle_c (Or.inl rfl) (lle_c (Or.inl rfl) (lle_c (Or.inr rfl) lle_n))))))) h
  · replace h := h.2 hc
    refine wp_iload dX3_greatest_55 rfl ?_
    refine wp_istore_n dX3_greatest_57 rfl (by decide) rfl rfl ?_
    refine wp_iconst dX3_greatest_58 rfl ?_
    refine wp_istore dX3_greatest_59 (by decide) rfl rfl ?_
    refine wp_iload dX3_greatest_61 rfl ?_
    refine wp_iload_n dX3_greatest_63 rfl rfl ?_
    refine wp_icmp_ne (tgt := 76) dX3_greatest_64 (by decide) (fun hc => ?_) (fun hc => ?_)
    · replace h := h.1 hc
      have s3 := h.1
      replace h := h.2
      refine wp_iinc dX3_greatest_76 rfl (by decide) rfl rfl ?_ (h1 := s3.1) (h2 := s3.2)
      refine wp_goto (tgt := 14) dX3_greatest_79 (by decide) ?_
      exact wp_drop (als' := [vR 4 i, vR 10 j, vU, vI t0, vI 0, vI (x5 + 1), vU]) (lle_c (Or.inl rfl) (lle_c (Or.inl rfl) (lle_c (Or.inl rfl) (lle_c (Or.inl rfl) (lle_c (Or.inl rfl) (lle_c (Or.inl rfl) (lle_c (Or.inr rfl) lle_n))))))) h
    · replace h := h.2 hc
      refine wp_iload dX3_greatest_67 rfl ?_
      refine wp_iconst dX3_greatest_69 rfl ?_
      refine wp_iload dX3_greatest_70 rfl ?_
      refine wp_ishl dX3_greatest_72 ?_
      refine wp_ior dX3_greatest_73 ?_
      refine wp_istore dX3_greatest_74 (by decide) rfl rfl ?_
      have s4 := h.1
      replace h := h.2
      refine wp_iinc dX3_greatest_76 rfl (by decide) rfl rfl ?_ (h1 := s4.1) (h2 := s4.2)
      refine wp_goto (tgt := 14) dX3_greatest_79 (by decide) ?_
      exact wp_drop (als' := [vR 4 i, vR 10 j, vU, vI t0, vI (bor 0 (shl 1 x5)), vI (x5 + 1), vU]) (lle_c (Or.inl rfl) (lle_c (Or.inl rfl) (lle_c (Or.inl rfl) (lle_c (Or.inl rfl) (lle_c (Or.inl rfl) (lle_c (Or.inl rfl) (lle_c (Or.inr rfl) lle_n))))))) h
theorem dX3_meetIn_0 : decode cX3_meetIn 0 = .ok (.iconst 0, 1) := by decide +kernel
theorem dX3_meetIn_1 : decode cX3_meetIn 1 = .ok (.istore_n 3, 1) := by decide +kernel
theorem dX3_meetIn_2 : decode cX3_meetIn 2 = .ok (.iload_n 3, 1) := by decide +kernel
theorem dX3_meetIn_3 : decode cX3_meetIn 3 = .ok (.aload_n 1, 1) := by decide +kernel
theorem dX3_meetIn_4 : decode cX3_meetIn 4 = .ok (.getfield 38, 3) := by decide +kernel
theorem dX3_meetIn_7 : decode cX3_meetIn 7 = .ok (.if_icmp .ge 21, 3) := by decide +kernel
theorem dX3_meetIn_10 : decode cX3_meetIn 10 = .ok (.aload_n 0, 1) := by decide +kernel
theorem dX3_meetIn_11 : decode cX3_meetIn 11 = .ok (.getfield 15, 3) := by decide +kernel
theorem dX3_meetIn_14 : decode cX3_meetIn 14 = .ok (.iload_n 3, 1) := by decide +kernel
theorem dX3_meetIn_15 : decode cX3_meetIn 15 = .ok (.aload_n 1, 1) := by decide +kernel
theorem dX3_meetIn_16 : decode cX3_meetIn 16 = .ok (.iload_n 2, 1) := by decide +kernel
theorem dX3_meetIn_17 : decode cX3_meetIn 17 = .ok (.iload_n 3, 1) := by decide +kernel
theorem dX3_meetIn_18 : decode cX3_meetIn 18 = .ok (.invokevirtual 45, 3) := by decide +kernel
theorem dX3_meetIn_21 : decode cX3_meetIn 21 = .ok (.iastore, 1) := by decide +kernel
theorem dX3_meetIn_22 : decode cX3_meetIn 22 = .ok (.iinc 3 1, 3) := by decide +kernel
theorem dX3_meetIn_25 : decode cX3_meetIn 25 = .ok (.goto (-23), 3) := by decide +kernel
theorem dX3_meetIn_28 : decode cX3_meetIn 28 = .ok (.aload_n 1, 1) := by decide +kernel
theorem dX3_meetIn_29 : decode cX3_meetIn 29 = .ok (.getfield 49, 3) := by decide +kernel
theorem dX3_meetIn_32 : decode cX3_meetIn 32 = .ok (.iconst 2, 1) := by decide +kernel
theorem dX3_meetIn_33 : decode cX3_meetIn 33 = .ok (.if_icmp .eq 4, 3) := by decide +kernel
theorem dX3_meetIn_36 : decode cX3_meetIn 36 = .ok (.return_, 1) := by decide +kernel
theorem dX3_meetIn_37 : decode cX3_meetIn 37 = .ok (.iconst 0, 1) := by decide +kernel
theorem dX3_meetIn_38 : decode cX3_meetIn 38 = .ok (.istore_n 3, 1) := by decide +kernel
theorem dX3_meetIn_39 : decode cX3_meetIn 39 = .ok (.iload_n 3, 1) := by decide +kernel
theorem dX3_meetIn_40 : decode cX3_meetIn 40 = .ok (.aload_n 1, 1) := by decide +kernel
theorem dX3_meetIn_41 : decode cX3_meetIn 41 = .ok (.getfield 38, 3) := by decide +kernel
theorem dX3_meetIn_44 : decode cX3_meetIn 44 = .ok (.if_icmp .ge 32, 3) := by decide +kernel
theorem dX3_meetIn_47 : decode cX3_meetIn 47 = .ok (.aload_n 0, 1) := by decide +kernel
theorem dX3_meetIn_48 : decode cX3_meetIn 48 = .ok (.aload_n 1, 1) := by decide +kernel
theorem dX3_meetIn_49 : decode cX3_meetIn 49 = .ok (.iload_n 3, 1) := by decide +kernel
theorem dX3_meetIn_50 : decode cX3_meetIn 50 = .ok (.invokevirtual 52, 3) := by decide +kernel
theorem dX3_meetIn_53 : decode cX3_meetIn 53 = .ok (.aload_n 0, 1) := by decide +kernel
theorem dX3_meetIn_54 : decode cX3_meetIn 54 = .ok (.getfield 19, 3) := by decide +kernel
theorem dX3_meetIn_57 : decode cX3_meetIn 57 = .ok (.iload_n 3, 1) := by decide +kernel
theorem dX3_meetIn_58 : decode cX3_meetIn 58 = .ok (.aload_n 0, 1) := by decide +kernel
theorem dX3_meetIn_59 : decode cX3_meetIn 59 = .ok (.aload_n 1, 1) := by decide +kernel
theorem dX3_meetIn_60 : decode cX3_meetIn 60 = .ok (.aload_n 0, 1) := by decide +kernel
theorem dX3_meetIn_61 : decode cX3_meetIn 61 = .ok (.getfield 15, 3) := by decide +kernel
theorem dX3_meetIn_64 : decode cX3_meetIn 64 = .ok (.iload_n 3, 1) := by decide +kernel
theorem dX3_meetIn_65 : decode cX3_meetIn 65 = .ok (.iaload, 1) := by decide +kernel
theorem dX3_meetIn_66 : decode cX3_meetIn 66 = .ok (.invokevirtual 55, 3) := by decide +kernel
theorem dX3_meetIn_69 : decode cX3_meetIn 69 = .ok (.iastore, 1) := by decide +kernel
theorem dX3_meetIn_70 : decode cX3_meetIn 70 = .ok (.iinc 3 1, 3) := by decide +kernel
theorem dX3_meetIn_73 : decode cX3_meetIn 73 = .ok (.goto (-34), 3) := by decide +kernel
theorem dX3_meetIn_76 : decode cX3_meetIn 76 = .ok (.return_, 1) := by decide +kernel
theorem b_X3_meetIn_0 {i : Nat} {j : Nat} {x2 : Int} {σ : St} {Q : Res → St → Prop} (h : WP mX3_meetIn 2 [vR 4 i, vR 10 j, vI x2, vI 0] [] σ Q) : WP mX3_meetIn 0 [vR 4 i, vR 10 j, vI x2, vU] [] σ Q := by
  refine wp_iconst dX3_meetIn_0 rfl ?_
  refine wp_istore_n dX3_meetIn_1 rfl (by decide) rfl rfl ?_
  exact h
theorem b_X3_meetIn_2 {i : Nat} {j : Nat} {x2 : Int} {x3 : Int} {σ : St} {Q : Res → St → Prop} (h : (((σ 10 j 0) ≤ x3) → ((((σ 10 j 2) = 2) → (WP mX3_meetIn 39 [vR 4 i, vR 10 j, vU, vI 0] [] σ Q)) ∧ (((σ 10 j 2) ≠ 2) → (Q (.inl none) σ)))) ∧ ((x3 < (σ 10 j 0)) → ((0 ≤ x3 ∧ x3 < 11 ∧ 0 ≤ x2 ∧ 0 < σ 60 j x3.toNat ∧ 0 ≤ x2 / (σ 60 j x3.toNat) ∧ 0 < σ 10 j 1) ∧ ((0 ≤ x3 ∧ x3 < 10) ∧ ((in32 (x3 + 1)) ∧ (WP mX3_meetIn 2 [vR 4 i, vR 10 j, vI x2, vI (x3 + 1)] [] (up σ 24 i x3.toNat ((x2 / (σ 60 j x3.toNat)) % (σ 10 j 1))) Q)))))) : WP mX3_meetIn 2 [vR 4 i, vR 10 j, vI x2, vI x3] [] σ Q := by
  refine wp_iload_n dX3_meetIn_2 rfl rfl ?_
  refine wp_aload_n dX3_meetIn_3 rfl rfl ?_
  refine wp_getI dX3_meetIn_4 fl_CustomValley_Replies_38 rfl rfl rfl ?_
  refine wp_icmp_ge (tgt := 28) dX3_meetIn_7 (by decide) (fun hc => ?_) (fun hc => ?_)
  · replace h := h.1 hc
    refine wp_aload_n dX3_meetIn_28 rfl rfl ?_
    refine wp_getI dX3_meetIn_29 fl_CustomValley_Replies_49 rfl rfl rfl ?_
    refine wp_iconst dX3_meetIn_32 rfl ?_
    refine wp_icmp_eq (tgt := 37) dX3_meetIn_33 (by decide) (fun hc => ?_) (fun hc => ?_)
    · replace h := h.1 hc
      refine wp_iconst dX3_meetIn_37 rfl ?_
      refine wp_istore_n dX3_meetIn_38 rfl (by decide) rfl rfl ?_
      exact wp_drop (als' := [vR 4 i, vR 10 j, vU, vI 0]) (lle_c (Or.inl rfl) (lle_c (Or.inl rfl) (lle_c (Or.inr rfl) (lle_c (Or.inl rfl) lle_n)))) h
    · replace h := h.2 hc
      exact wp_ret dX3_meetIn_36 rfl h
  · replace h := h.2 hc
    refine wp_aload_n dX3_meetIn_10 rfl rfl ?_
    refine wp_getR dX3_meetIn_11 fl_CustomValley_Replies_15 rfl rfl ?_
    refine wp_iload_n dX3_meetIn_14 rfl rfl ?_
    refine wp_aload_n dX3_meetIn_15 rfl rfl ?_
    refine wp_iload_n dX3_meetIn_16 rfl rfl ?_
    refine wp_iload_n dX3_meetIn_17 rfl rfl ?_
    have s3 := h.1
    replace h := h.2
    refine wp_invV (N := mX9_habitIn) [vI x2, vI x3] dX3_meetIn_18 ml_CustomValley_Replies_45 mvX9_habitIn rfl rfl rfl rfl rfl (Nat.le_of_ble_eq_true rfl) (Nat.le_of_ble_eq_true rfl) (by decide) (by decide) (by decide) ?_
    refine pb_X9_habitIn s3 ?_
    show WP mX3_meetIn 21 [vR 4 i, vR 10 j, vI x2, vI x3] [vI ((x2 / (σ 60 j x3.toNat)) % (σ 10 j 1)), vI x3, vR 24 i] σ Q
    have s2 := h.1
    replace h := h.2
    refine wp_iastore dX3_meetIn_21 rfl rfl s2.1 s2.2 ?_
    have s1 := h.1
    replace h := h.2
    refine wp_iinc dX3_meetIn_22 rfl (by decide) rfl rfl ?_ (h1 := s1.1) (h2 := s1.2)
    refine wp_goto (tgt := 2) dX3_meetIn_25 (by decide) ?_
    exact h
theorem b_X3_meetIn_39 {i : Nat} {j : Nat} {x3 : Int} {σ : St} {Q : Res → St → Prop} (h : (((σ 10 j 0) ≤ x3) → (Q (.inl none) σ)) ∧ ((x3 < (σ 10 j 0)) → (WP mX3_countMet 0 [vR 4 i, vR 10 j, vI x3, vU] [] σ (CT mX3_meetIn 53 [vR 4 i, vR 10 j, vU, vI x3] [] Q)))) : WP mX3_meetIn 39 [vR 4 i, vR 10 j, vU, vI x3] [] σ Q := by
  refine wp_iload_n dX3_meetIn_39 rfl rfl ?_
  refine wp_aload_n dX3_meetIn_40 rfl rfl ?_
  refine wp_getI dX3_meetIn_41 fl_CustomValley_Replies_38 rfl rfl rfl ?_
  refine wp_icmp_ge (tgt := 76) dX3_meetIn_44 (by decide) (fun hc => ?_) (fun hc => ?_)
  · replace h := h.1 hc
    exact wp_ret dX3_meetIn_76 rfl h
  · replace h := h.2 hc
    refine wp_aload_n dX3_meetIn_47 rfl rfl ?_
    refine wp_aload_n dX3_meetIn_48 rfl rfl ?_
    refine wp_iload_n dX3_meetIn_49 rfl rfl ?_
    refine wp_invV (N := mX3_countMet) [vR 10 j, vI x3] dX3_meetIn_50 ml_CustomValley_Replies_52 mvX3_countMet rfl rfl rfl rfl rfl (Nat.le_of_ble_eq_true rfl) (Nat.le_of_ble_eq_true rfl) (by decide) (by decide) (by decide) ?_
    exact h
theorem b_X3_meetIn_53 {i : Nat} {j : Nat} {x3 : Int} {σ : St} {Q : Res → St → Prop} (h : (0 ≤ x3 ∧ x3 < 10) ∧ (WP mX3_pays 0 [vR 4 i, vR 10 j, vI (σ 24 i x3.toNat), vU, vU] [] σ (CT mX3_meetIn 69 [vR 4 i, vR 10 j, vU, vI x3] [vI x3, vR 25 i] Q))) : WP mX3_meetIn 53 [vR 4 i, vR 10 j, vU, vI x3] [] σ Q := by
  refine wp_aload_n dX3_meetIn_53 rfl rfl ?_
  refine wp_getR dX3_meetIn_54 fl_CustomValley_Replies_19 rfl rfl ?_
  refine wp_iload_n dX3_meetIn_57 rfl rfl ?_
  refine wp_aload_n dX3_meetIn_58 rfl rfl ?_
  refine wp_aload_n dX3_meetIn_59 rfl rfl ?_
  refine wp_aload_n dX3_meetIn_60 rfl rfl ?_
  refine wp_getR dX3_meetIn_61 fl_CustomValley_Replies_15 rfl rfl ?_
  refine wp_iload_n dX3_meetIn_64 rfl rfl ?_
  have s1 := h.1
  replace h := h.2
  refine wp_iaload dX3_meetIn_65 rfl rfl s1.1 s1.2 ?_
  refine wp_invV (N := mX3_pays) [vR 10 j, vI (σ 24 i x3.toNat)] dX3_meetIn_66 ml_CustomValley_Replies_55 mvX3_pays rfl rfl rfl rfl rfl (Nat.le_of_ble_eq_true rfl) (Nat.le_of_ble_eq_true rfl) (by decide) (by decide) (by decide) ?_
  exact h
theorem b_X3_meetIn_69 {i : Nat} {j : Nat} {x3 : Int} {t0 : Int} {t1 : Int} {σ : St} {Q : Res → St → Prop} (h : (0 ≤ t1 ∧ t1 < 10) ∧ ((in32 (x3 + 1)) ∧ (WP mX3_meetIn 39 [vR 4 i, vR 10 j, vU, vI (x3 + 1)] [] (up σ 25 i t1.toNat t0) Q))) : WP mX3_meetIn 69 [vR 4 i, vR 10 j, vU, vI x3] [vI t0, vI t1, vR 25 i] σ Q := by
  have s2 := h.1
  replace h := h.2
  refine wp_iastore dX3_meetIn_69 rfl rfl s2.1 s2.2 ?_
  have s1 := h.1
  replace h := h.2
  refine wp_iinc dX3_meetIn_70 rfl (by decide) rfl rfl ?_ (h1 := s1.1) (h2 := s1.2)
  refine wp_goto (tgt := 39) dX3_meetIn_73 (by decide) ?_
  exact h
theorem dX3_reply_0 : decode cX3_reply 0 = .ok (.aload_n 1, 1) := by decide +kernel
theorem dX3_reply_1 : decode cX3_reply 1 = .ok (.iload_n 2, 1) := by decide +kernel
theorem dX3_reply_2 : decode cX3_reply 2 = .ok (.invokevirtual 67, 3) := by decide +kernel
theorem dX3_reply_5 : decode cX3_reply 5 = .ok (.ifCond .ne 12, 3) := by decide +kernel
theorem dX3_reply_8 : decode cX3_reply 8 = .ok (.iconst 1, 1) := by decide +kernel
theorem dX3_reply_9 : decode cX3_reply 9 = .ok (.aload_n 1, 1) := by decide +kernel
theorem dX3_reply_10 : decode cX3_reply 10 = .ok (.getfield 71, 3) := by decide +kernel
theorem dX3_reply_13 : decode cX3_reply 13 = .ok (.iload_n 2, 1) := by decide +kernel
theorem dX3_reply_14 : decode cX3_reply 14 = .ok (.iaload, 1) := by decide +kernel
theorem dX3_reply_15 : decode cX3_reply 15 = .ok (.ishl, 1) := by decide +kernel
theorem dX3_reply_16 : decode cX3_reply 16 = .ok (.ireturn, 1) := by decide +kernel
theorem dX3_reply_17 : decode cX3_reply 17 = .ok (.aload_n 1, 1) := by decide +kernel
theorem dX3_reply_18 : decode cX3_reply 18 = .ok (.getfield 49, 3) := by decide +kernel
theorem dX3_reply_21 : decode cX3_reply 21 = .ok (.iconst 2, 1) := by decide +kernel
theorem dX3_reply_22 : decode cX3_reply 22 = .ok (.if_icmp .ne 12, 3) := by decide +kernel
theorem dX3_reply_25 : decode cX3_reply 25 = .ok (.aload_n 0, 1) := by decide +kernel
theorem dX3_reply_26 : decode cX3_reply 26 = .ok (.aload_n 1, 1) := by decide +kernel
theorem dX3_reply_27 : decode cX3_reply 27 = .ok (.iload_n 2, 1) := by decide +kernel
theorem dX3_reply_28 : decode cX3_reply 28 = .ok (.invokevirtual 74, 3) := by decide +kernel
theorem dX3_reply_31 : decode cX3_reply 31 = .ok (.goto 9, 3) := by decide +kernel
theorem dX3_reply_34 : decode cX3_reply 34 = .ok (.aload_n 0, 1) := by decide +kernel
theorem dX3_reply_35 : decode cX3_reply 35 = .ok (.aload_n 1, 1) := by decide +kernel
theorem dX3_reply_36 : decode cX3_reply 36 = .ok (.iload_n 2, 1) := by decide +kernel
theorem dX3_reply_37 : decode cX3_reply 37 = .ok (.invokevirtual 77, 3) := by decide +kernel
theorem dX3_reply_40 : decode cX3_reply 40 = .ok (.istore_n 3, 1) := by decide +kernel
theorem dX3_reply_41 : decode cX3_reply 41 = .ok (.iconst 1, 1) := by decide +kernel
theorem dX3_reply_42 : decode cX3_reply 42 = .ok (.aload_n 0, 1) := by decide +kernel
theorem dX3_reply_43 : decode cX3_reply 43 = .ok (.getfield 15, 3) := by decide +kernel
theorem dX3_reply_46 : decode cX3_reply 46 = .ok (.iload_n 2, 1) := by decide +kernel
theorem dX3_reply_47 : decode cX3_reply 47 = .ok (.iaload, 1) := by decide +kernel
theorem dX3_reply_48 : decode cX3_reply 48 = .ok (.ishl, 1) := by decide +kernel
theorem dX3_reply_49 : decode cX3_reply 49 = .ok (.istore 4, 2) := by decide +kernel
theorem dX3_reply_51 : decode cX3_reply 51 = .ok (.aload_n 1, 1) := by decide +kernel
theorem dX3_reply_52 : decode cX3_reply 52 = .ok (.getfield 80, 3) := by decide +kernel
theorem dX3_reply_55 : decode cX3_reply 55 = .ok (.ifCond .eq 15, 3) := by decide +kernel
theorem dX3_reply_58 : decode cX3_reply 58 = .ok (.iload_n 3, 1) := by decide +kernel
theorem dX3_reply_59 : decode cX3_reply 59 = .ok (.iload 4, 2) := by decide +kernel
theorem dX3_reply_61 : decode cX3_reply 61 = .ok (.iand, 1) := by decide +kernel
theorem dX3_reply_62 : decode cX3_reply 62 = .ok (.ifCond .eq 8, 3) := by decide +kernel
theorem dX3_reply_65 : decode cX3_reply 65 = .ok (.iload 4, 2) := by decide +kernel
theorem dX3_reply_67 : decode cX3_reply 67 = .ok (.goto 4, 3) := by decide +kernel
theorem dX3_reply_70 : decode cX3_reply 70 = .ok (.iload_n 3, 1) := by decide +kernel
theorem dX3_reply_71 : decode cX3_reply 71 = .ok (.ireturn, 1) := by decide +kernel
theorem b_X3_reply_0 {i : Nat} {j : Nat} {x2 : Int} {σ : St} {Q : Res → St → Prop} (h : ((band (shr (σ 10 j 9) x2) 1 ≠ 0) → ((((σ 10 j 2) ≠ 2) → (WP mX3_greatest 0 [vR 4 i, vR 10 j, vI x2, vU, vU, vU, vU] [] σ (CT mX3_reply 40 [vR 4 i, vR 10 j, vI x2, vU, vU] [] Q))) ∧ (((σ 10 j 2) = 2) → (WP mX3_copied 0 [vR 4 i, vR 10 j, vI x2, vU, vU, vU] [] σ (CT mX3_reply 31 [vR 4 i, vR 10 j, vI x2, vU, vU] [] Q))))) ∧ ((¬ (band (shr (σ 10 j 9) x2) 1 ≠ 0)) → ((0 ≤ x2 ∧ x2 < 10) ∧ (Q (.inl (some (vI (shl 1 (σ 57 j x2.toNat))))) σ)))) : WP mX3_reply 0 [vR 4 i, vR 10 j, vI x2, vU, vU] [] σ Q := by
  refine wp_aload_n dX3_reply_0 rfl rfl ?_
  refine wp_iload_n dX3_reply_1 rfl rfl ?_
  refine wp_invV (N := mX9_isFree) [vI x2] dX3_reply_2 ml_CustomValley_Replies_67 mvX9_isFree rfl rfl rfl rfl rfl (Nat.le_of_ble_eq_true rfl) (Nat.le_of_ble_eq_true rfl) (by decide) (by decide) (by decide) ?_
  refine pb_X9_isFree (by trivial) ?_
  show WP mX3_reply 5 [vR 4 i, vR 10 j, vI x2, vU, vU] [vI (b2 (band (shr (σ 10 j 9) x2) 1 ≠ 0))] σ Q
  refine wp_if_ne (tgt := 17) dX3_reply_5 (by decide) (fun hc => ?_) (fun hc => ?_)
  · replace h := h.1 (b2_ne hc)
    refine wp_aload_n dX3_reply_17 rfl rfl ?_
    refine wp_getI dX3_reply_18 fl_CustomValley_Replies_49 rfl rfl rfl ?_
    refine wp_iconst dX3_reply_21 rfl ?_
    refine wp_icmp_ne (tgt := 34) dX3_reply_22 (by decide) (fun hc => ?_) (fun hc => ?_)
    · replace h := h.1 hc
      refine wp_aload_n dX3_reply_34 rfl rfl ?_
      refine wp_aload_n dX3_reply_35 rfl rfl ?_
      refine wp_iload_n dX3_reply_36 rfl rfl ?_
      refine wp_invV (N := mX3_greatest) [vR 10 j, vI x2] dX3_reply_37 ml_CustomValley_Replies_77 mvX3_greatest rfl rfl rfl rfl rfl (Nat.le_of_ble_eq_true rfl) (Nat.le_of_ble_eq_true rfl) (by decide) (by decide) (by decide) ?_
      exact h
    · replace h := h.2 hc
      refine wp_aload_n dX3_reply_25 rfl rfl ?_
      refine wp_aload_n dX3_reply_26 rfl rfl ?_
      refine wp_iload_n dX3_reply_27 rfl rfl ?_
      refine wp_invV (N := mX3_copied) [vR 10 j, vI x2] dX3_reply_28 ml_CustomValley_Replies_74 mvX3_copied rfl rfl rfl rfl rfl (Nat.le_of_ble_eq_true rfl) (Nat.le_of_ble_eq_true rfl) (by decide) (by decide) (by decide) ?_
      exact h
  · replace h := h.2 (b2_eq hc)
    refine wp_iconst dX3_reply_8 rfl ?_
    refine wp_aload_n dX3_reply_9 rfl rfl ?_
    refine wp_getR dX3_reply_10 fl_CustomValley_Replies_71 rfl rfl ?_
    refine wp_iload_n dX3_reply_13 rfl rfl ?_
    have s1 := h.1
    replace h := h.2
    refine wp_iaload dX3_reply_14 rfl rfl s1.1 s1.2 ?_
    refine wp_ishl dX3_reply_15 ?_
    exact wp_iret dX3_reply_16 rfl h
theorem b_X3_reply_31 {i : Nat} {j : Nat} {x2 : Int} {t0 : Int} {σ : St} {Q : Res → St → Prop} (h : WP mX3_reply 40 [vR 4 i, vR 10 j, vI x2, vU, vU] [vI t0] σ Q) : WP mX3_reply 31 [vR 4 i, vR 10 j, vI x2, vU, vU] [vI t0] σ Q := by
  refine wp_goto (tgt := 40) dX3_reply_31 (by decide) ?_
  exact h
theorem b_X3_reply_40 {i : Nat} {j : Nat} {x2 : Int} {t0 : Int} {σ : St} {Q : Res → St → Prop} (h : (0 ≤ x2 ∧ x2 < 10) ∧ ((((σ 10 j 3) = 0) → (Q (.inl (some (vI t0))) σ)) ∧ (((σ 10 j 3) ≠ 0) → ((((band t0 (shl 1 (σ 24 i x2.toNat))) = 0) → (Q (.inl (some (vI t0))) σ)) ∧ (((band t0 (shl 1 (σ 24 i x2.toNat))) ≠ 0) → (Q (.inl (some (vI (shl 1 (σ 24 i x2.toNat))))) σ)))))) : WP mX3_reply 40 [vR 4 i, vR 10 j, vI x2, vU, vU] [vI t0] σ Q := by
  refine wp_istore_n dX3_reply_40 rfl (by decide) rfl rfl ?_
  refine wp_iconst dX3_reply_41 rfl ?_
  refine wp_aload_n dX3_reply_42 rfl rfl ?_
  refine wp_getR dX3_reply_43 fl_CustomValley_Replies_15 rfl rfl ?_
  refine wp_iload_n dX3_reply_46 rfl rfl ?_
  have s1 := h.1
  replace h := h.2
  refine wp_iaload dX3_reply_47 rfl rfl s1.1 s1.2 ?_
  refine wp_ishl dX3_reply_48 ?_
  refine wp_istore dX3_reply_49 (by decide) rfl rfl ?_
  refine wp_aload_n dX3_reply_51 rfl rfl ?_
  refine wp_getI dX3_reply_52 fl_CustomValley_Replies_80 rfl rfl rfl ?_
  refine wp_if_eq (tgt := 70) dX3_reply_55 (by decide) (fun hc => ?_) (fun hc => ?_)
  · replace h := h.1 hc
    refine wp_iload_n dX3_reply_70 rfl rfl ?_
    exact wp_iret dX3_reply_71 rfl h
  · replace h := h.2 hc
    refine wp_iload_n dX3_reply_58 rfl rfl ?_
    refine wp_iload dX3_reply_59 rfl ?_
    refine wp_iand dX3_reply_61 ?_
    refine wp_if_eq (tgt := 70) dX3_reply_62 (by decide) (fun hc => ?_) (fun hc => ?_)
    · replace h := h.1 hc
      refine wp_iload_n dX3_reply_70 rfl rfl ?_
      exact wp_iret dX3_reply_71 rfl h
    · replace h := h.2 hc
      refine wp_iload dX3_reply_65 rfl ?_
      refine wp_goto (tgt := 71) dX3_reply_67 (by decide) ?_
      exact wp_iret dX3_reply_71 rfl h
theorem dX3_fill_0 : decode cX3_fill 0 = .ok (.iconst 0, 1) := by decide +kernel
theorem dX3_fill_1 : decode cX3_fill 1 = .ok (.istore_n 2, 1) := by decide +kernel
theorem dX3_fill_2 : decode cX3_fill 2 = .ok (.iconst 0, 1) := by decide +kernel
theorem dX3_fill_3 : decode cX3_fill 3 = .ok (.istore_n 3, 1) := by decide +kernel
theorem dX3_fill_4 : decode cX3_fill 4 = .ok (.iload_n 3, 1) := by decide +kernel
theorem dX3_fill_5 : decode cX3_fill 5 = .ok (.aload_n 1, 1) := by decide +kernel
theorem dX3_fill_6 : decode cX3_fill 6 = .ok (.getfield 25, 3) := by decide +kernel
theorem dX3_fill_9 : decode cX3_fill 9 = .ok (.if_icmp .ge 95, 3) := by decide +kernel
theorem dX3_fill_12 : decode cX3_fill 12 = .ok (.aload_n 1, 1) := by decide +kernel
theorem dX3_fill_13 : decode cX3_fill 13 = .ok (.getfield 31, 3) := by decide +kernel
theorem dX3_fill_16 : decode cX3_fill 16 = .ok (.iload_n 3, 1) := by decide +kernel
theorem dX3_fill_17 : decode cX3_fill 17 = .ok (.iaload, 1) := by decide +kernel
theorem dX3_fill_18 : decode cX3_fill 18 = .ok (.istore 4, 2) := by decide +kernel
theorem dX3_fill_20 : decode cX3_fill 20 = .ok (.aload_n 0, 1) := by decide +kernel
theorem dX3_fill_21 : decode cX3_fill 21 = .ok (.aload_n 1, 1) := by decide +kernel
theorem dX3_fill_22 : decode cX3_fill 22 = .ok (.iload 4, 2) := by decide +kernel
theorem dX3_fill_24 : decode cX3_fill 24 = .ok (.invokevirtual 34, 3) := by decide +kernel
theorem dX3_fill_27 : decode cX3_fill 27 = .ok (.iconst 0, 1) := by decide +kernel
theorem dX3_fill_28 : decode cX3_fill 28 = .ok (.istore 5, 2) := by decide +kernel
theorem dX3_fill_30 : decode cX3_fill 30 = .ok (.iload 5, 2) := by decide +kernel
theorem dX3_fill_32 : decode cX3_fill 32 = .ok (.aload_n 1, 1) := by decide +kernel
theorem dX3_fill_33 : decode cX3_fill 33 = .ok (.getfield 38, 3) := by decide +kernel
theorem dX3_fill_36 : decode cX3_fill 36 = .ok (.if_icmp .ge 62, 3) := by decide +kernel
theorem dX3_fill_39 : decode cX3_fill 39 = .ok (.aload_n 0, 1) := by decide +kernel
theorem dX3_fill_40 : decode cX3_fill 40 = .ok (.getfield 15, 3) := by decide +kernel
theorem dX3_fill_43 : decode cX3_fill 43 = .ok (.iload 5, 2) := by decide +kernel
theorem dX3_fill_45 : decode cX3_fill 45 = .ok (.iaload, 1) := by decide +kernel
theorem dX3_fill_46 : decode cX3_fill 46 = .ok (.iconst 4, 1) := by decide +kernel
theorem dX3_fill_47 : decode cX3_fill 47 = .ok (.ishl, 1) := by decide +kernel
theorem dX3_fill_48 : decode cX3_fill 48 = .ok (.aload_n 0, 1) := by decide +kernel
theorem dX3_fill_49 : decode cX3_fill 49 = .ok (.aload_n 1, 1) := by decide +kernel
theorem dX3_fill_50 : decode cX3_fill 50 = .ok (.iload 5, 2) := by decide +kernel
theorem dX3_fill_52 : decode cX3_fill 52 = .ok (.invokevirtual 41, 3) := by decide +kernel
theorem dX3_fill_55 : decode cX3_fill 55 = .ok (.ior, 1) := by decide +kernel
theorem dX3_fill_56 : decode cX3_fill 56 = .ok (.i2b, 1) := by decide +kernel
theorem dX3_fill_57 : decode cX3_fill 57 = .ok (.istore 6, 2) := by decide +kernel
theorem dX3_fill_59 : decode cX3_fill 59 = .ok (.iload 4, 2) := by decide +kernel
theorem dX3_fill_61 : decode cX3_fill 61 = .ok (.bipush 10, 2) := by decide +kernel
theorem dX3_fill_63 : decode cX3_fill 63 = .ok (.imul, 1) := by decide +kernel
theorem dX3_fill_64 : decode cX3_fill 64 = .ok (.iload 5, 2) := by decide +kernel
theorem dX3_fill_66 : decode cX3_fill 66 = .ok (.iadd, 1) := by decide +kernel
theorem dX3_fill_67 : decode cX3_fill 67 = .ok (.istore 7, 2) := by decide +kernel
theorem dX3_fill_69 : decode cX3_fill 69 = .ok (.aload_n 0, 1) := by decide +kernel
theorem dX3_fill_70 : decode cX3_fill 70 = .ok (.getfield 9, 3) := by decide +kernel
theorem dX3_fill_73 : decode cX3_fill 73 = .ok (.iload 7, 2) := by decide +kernel
theorem dX3_fill_75 : decode cX3_fill 75 = .ok (.baload, 1) := by decide +kernel
theorem dX3_fill_76 : decode cX3_fill 76 = .ok (.iload 6, 2) := by decide +kernel
theorem dX3_fill_78 : decode cX3_fill 78 = .ok (.if_icmp .eq 14, 3) := by decide +kernel
theorem dX3_fill_81 : decode cX3_fill 81 = .ok (.aload_n 0, 1) := by decide +kernel
theorem dX3_fill_82 : decode cX3_fill 82 = .ok (.getfield 9, 3) := by decide +kernel
theorem dX3_fill_85 : decode cX3_fill 85 = .ok (.iload 7, 2) := by decide +kernel
theorem dX3_fill_87 : decode cX3_fill 87 = .ok (.iload 6, 2) := by decide +kernel
theorem dX3_fill_89 : decode cX3_fill 89 = .ok (.bastore, 1) := by decide +kernel
theorem dX3_fill_90 : decode cX3_fill 90 = .ok (.iconst 1, 1) := by decide +kernel
theorem dX3_fill_91 : decode cX3_fill 91 = .ok (.istore_n 2, 1) := by decide +kernel
theorem dX3_fill_92 : decode cX3_fill 92 = .ok (.iinc 5 1, 3) := by decide +kernel
theorem dX3_fill_95 : decode cX3_fill 95 = .ok (.goto (-65), 3) := by decide +kernel
theorem dX3_fill_98 : decode cX3_fill 98 = .ok (.iinc 3 1, 3) := by decide +kernel
theorem dX3_fill_101 : decode cX3_fill 101 = .ok (.goto (-97), 3) := by decide +kernel
theorem dX3_fill_104 : decode cX3_fill 104 = .ok (.iload_n 2, 1) := by decide +kernel
theorem dX3_fill_105 : decode cX3_fill 105 = .ok (.ireturn, 1) := by decide +kernel
theorem b_X3_fill_0 {i : Nat} {j : Nat} {σ : St} {Q : Res → St → Prop} (h : WP mX3_fill 4 [vR 4 i, vR 10 j, vI 0, vI 0, vU, vU, vU, vU] [] σ Q) : WP mX3_fill 0 [vR 4 i, vR 10 j, vU, vU, vU, vU, vU, vU] [] σ Q := by
  refine wp_iconst dX3_fill_0 rfl ?_
  refine wp_istore_n dX3_fill_1 rfl (by decide) rfl rfl ?_
  refine wp_iconst dX3_fill_2 rfl ?_
  refine wp_istore_n dX3_fill_3 rfl (by decide) rfl rfl ?_
  exact h
theorem b_X3_fill_4 {i : Nat} {j : Nat} {x2 : Int} {x3 : Int} {σ : St} {Q : Res → St → Prop} (h : (((σ 10 j 12) ≤ x3) → ((x2 = 0 ∨ x2 = 1) ∧ Q (.inl (some (vI x2))) σ)) ∧ ((x3 < (σ 10 j 12)) → ((0 ≤ x3 ∧ x3 < 1024) ∧ (WP mX3_meetIn 0 [vR 4 i, vR 10 j, vI (σ 61 j x3.toNat), vU] [] σ (CT mX3_fill 27 [vR 4 i, vR 10 j, vI x2, vI x3, vI (σ 61 j x3.toNat), vU, vU, vU] [] Q))))) : WP mX3_fill 4 [vR 4 i, vR 10 j, vI x2, vI x3, vU, vU, vU, vU] [] σ Q := by
  refine wp_iload_n dX3_fill_4 rfl rfl ?_
  refine wp_aload_n dX3_fill_5 rfl rfl ?_
  refine wp_getI dX3_fill_6 fl_CustomValley_Replies_25 rfl rfl rfl ?_
  refine wp_icmp_ge (tgt := 104) dX3_fill_9 (by decide) (fun hc => ?_) (fun hc => ?_)
  · replace h := h.1 hc
    refine wp_iload_n dX3_fill_104 rfl rfl ?_
    have s1 := h.1
    replace h := h.2
    exact wp_zret dX3_fill_105 rfl h s1
  · replace h := h.2 hc
    refine wp_aload_n dX3_fill_12 rfl rfl ?_
    refine wp_getR dX3_fill_13 fl_CustomValley_Replies_31 rfl rfl ?_
    refine wp_iload_n dX3_fill_16 rfl rfl ?_
    have s2 := h.1
    replace h := h.2
    refine wp_iaload dX3_fill_17 rfl rfl s2.1 s2.2 ?_
    refine wp_istore dX3_fill_18 (by decide) rfl rfl ?_
    refine wp_aload_n dX3_fill_20 rfl rfl ?_
    refine wp_aload_n dX3_fill_21 rfl rfl ?_
    refine wp_iload dX3_fill_22 rfl ?_
    refine wp_invV (N := mX3_meetIn) [vR 10 j, vI (σ 61 j x3.toNat)] dX3_fill_24 ml_CustomValley_Replies_34 mvX3_meetIn rfl rfl rfl rfl rfl (Nat.le_of_ble_eq_true rfl) (Nat.le_of_ble_eq_true rfl) (by decide) (by decide) (by decide) ?_
    exact h
theorem b_X3_fill_27 {i : Nat} {j : Nat} {x2 : Int} {x3 : Int} {x4 : Int} {σ : St} {Q : Res → St → Prop} (h : WP mX3_fill 30 [vR 4 i, vR 10 j, vI x2, vI x3, vI x4, vI 0, vU, vU] [] σ Q) : WP mX3_fill 27 [vR 4 i, vR 10 j, vI x2, vI x3, vI x4, vU, vU, vU] [] σ Q := by
  refine wp_iconst dX3_fill_27 rfl ?_
  refine wp_istore dX3_fill_28 (by decide) rfl rfl ?_
  exact h
theorem b_X3_fill_30 {i : Nat} {j : Nat} {x2 : Int} {x3 : Int} {x4 : Int} {x5 : Int} {σ : St} {Q : Res → St → Prop} (h : (((σ 10 j 0) ≤ x5) → ((in32 (x3 + 1)) ∧ (WP mX3_fill 4 [vR 4 i, vR 10 j, vI x2, vI (x3 + 1), vU, vU, vU, vU] [] σ Q))) ∧ ((x5 < (σ 10 j 0)) → ((0 ≤ x5 ∧ x5 < 10) ∧ (WP mX3_reply 0 [vR 4 i, vR 10 j, vI x5, vU, vU] [] σ (CT mX3_fill 55 [vR 4 i, vR 10 j, vI x2, vI x3, vI x4, vI x5, vU, vU] [vI (shl (σ 24 i x5.toNat) 4)] Q))))) : WP mX3_fill 30 [vR 4 i, vR 10 j, vI x2, vI x3, vI x4, vI x5, vU, vU] [] σ Q := by
  refine wp_iload dX3_fill_30 rfl ?_
  refine wp_aload_n dX3_fill_32 rfl rfl ?_
  refine wp_getI dX3_fill_33 fl_CustomValley_Replies_38 rfl rfl rfl ?_
  refine wp_icmp_ge (tgt := 98) dX3_fill_36 (by decide) (fun hc => ?_) (fun hc => ?_)
  · replace h := h.1 hc
    have s1 := h.1
    replace h := h.2
    refine wp_iinc dX3_fill_98 rfl (by decide) rfl rfl ?_ (h1 := s1.1) (h2 := s1.2)
    refine wp_goto (tgt := 4) dX3_fill_101 (by decide) ?_
    exact wp_drop (als' := [vR 4 i, vR 10 j, vI x2, vI (x3 + 1), vU, vU, vU, vU]) (lle_c (Or.inl rfl) (lle_c (Or.inl rfl) (lle_c (Or.inl rfl) (lle_c (Or.inl rfl) (lle_c (Or.inr rfl) (lle_c (Or.inr rfl) (lle_c (Or.inl rfl) (lle_c (Or.inl rfl) lle_n)))))))) h
  · replace h := h.2 hc
    refine wp_aload_n dX3_fill_39 rfl rfl ?_
    refine wp_getR dX3_fill_40 fl_CustomValley_Replies_15 rfl rfl ?_
    refine wp_iload dX3_fill_43 rfl ?_
    have s2 := h.1
    replace h := h.2
    refine wp_iaload dX3_fill_45 rfl rfl s2.1 s2.2 ?_
    refine wp_iconst dX3_fill_46 rfl ?_
    refine wp_ishl dX3_fill_47 ?_
    refine wp_aload_n dX3_fill_48 rfl rfl ?_
    refine wp_aload_n dX3_fill_49 rfl rfl ?_
    refine wp_iload dX3_fill_50 rfl ?_
    refine wp_invV (N := mX3_reply) [vR 10 j, vI x5] dX3_fill_52 ml_CustomValley_Replies_41 mvX3_reply rfl rfl rfl rfl rfl (Nat.le_of_ble_eq_true rfl) (Nat.le_of_ble_eq_true rfl) (by decide) (by decide) (by decide) ?_
    exact h
theorem b_X3_fill_55 {i : Nat} {j : Nat} {x2 : Int} {x3 : Int} {x4 : Int} {x5 : Int} {t0 : Int} {t1 : Int} {σ : St} {Q : Res → St → Prop} (h : (in32 (x4 * 10)) ∧ ((in32 ((x4 * 10) + x5)) ∧ ((0 ≤ (x4 * 10) + x5 ∧ ((x4 * 10) + x5) < 10240) ∧ ((((σ 23 i (((x4 * 10) + x5).toNat)) = (i2bI (bor t1 t0))) → ((in32 (x5 + 1)) ∧ (WP mX3_fill 30 [vR 4 i, vR 10 j, vI x2, vI x3, vI x4, vI (x5 + 1), vU, vU] [] σ Q))) ∧ (((σ 23 i (((x4 * 10) + x5).toNat)) ≠ (i2bI (bor t1 t0))) → ((0 ≤ (x4 * 10) + x5 ∧ ((x4 * 10) + x5) < 10240) ∧ ((in32 (x5 + 1)) ∧ (WP mX3_fill 30 [vR 4 i, vR 10 j, vI 1, vI x3, vI x4, vI (x5 + 1), vU, vU] [] (up σ 23 i (((x4 * 10) + x5).toNat) (i2bI (i2bI (bor t1 t0)))) Q)))))))) : WP mX3_fill 55 [vR 4 i, vR 10 j, vI x2, vI x3, vI x4, vI x5, vU, vU] [vI t0, vI t1] σ Q := by
  refine wp_ior dX3_fill_55 ?_
  refine wp_i2b dX3_fill_56 ?_
  refine wp_istore dX3_fill_57 (by decide) rfl rfl ?_
  refine wp_iload dX3_fill_59 rfl ?_
  refine wp_bipush dX3_fill_61 rfl ?_
  have s6 := h.1
  replace h := h.2
  refine wp_imul dX3_fill_63 ?_ (h1 := s6.1) (h2 := s6.2)
  refine wp_iload dX3_fill_64 rfl ?_
  have s5 := h.1
  replace h := h.2
  refine wp_iadd dX3_fill_66 ?_ (h1 := s5.1) (h2 := s5.2)
  refine wp_istore dX3_fill_67 (by decide) rfl rfl ?_
  refine wp_aload_n dX3_fill_69 rfl rfl ?_
  refine wp_getR dX3_fill_70 fl_CustomValley_Replies_9 rfl rfl ?_
  refine wp_iload dX3_fill_73 rfl ?_
  have s4 := h.1
  replace h := h.2
  refine wp_baload dX3_fill_75 rfl rfl s4.1 s4.2 ?_
  refine wp_iload dX3_fill_76 rfl ?_
  refine wp_icmp_eq (tgt := 92) dX3_fill_78 (by decide) (fun hc => ?_) (fun hc => ?_)
  · replace h := h.1 hc
    have s1 := h.1
    replace h := h.2
    refine wp_iinc dX3_fill_92 rfl (by decide) rfl rfl ?_ (h1 := s1.1) (h2 := s1.2)
    refine wp_goto (tgt := 30) dX3_fill_95 (by decide) ?_
    exact wp_drop (als' := [vR 4 i, vR 10 j, vI x2, vI x3, vI x4, vI (x5 + 1), vU, vU]) (lle_c (Or.inl rfl) (lle_c (Or.inl rfl) (lle_c (Or.inl rfl) (lle_c (Or.inl rfl) (lle_c (Or.inl rfl) (lle_c (Or.inl rfl) (lle_c (Or.inr rfl) (lle_c (Or.inr rfl) lle_n)))))))) h
  · replace h := h.2 hc
    refine wp_aload_n dX3_fill_81 rfl rfl ?_
    refine wp_getR dX3_fill_82 fl_CustomValley_Replies_9 rfl rfl ?_
    refine wp_iload dX3_fill_85 rfl ?_
    refine wp_iload dX3_fill_87 rfl ?_
    have s3 := h.1
    replace h := h.2
    refine wp_bastore dX3_fill_89 rfl rfl s3.1 s3.2 ?_
    refine wp_iconst dX3_fill_90 rfl ?_
    refine wp_istore_n dX3_fill_91 rfl (by decide) rfl rfl ?_
    have s2 := h.1
    replace h := h.2
    refine wp_iinc dX3_fill_92 rfl (by decide) rfl rfl ?_ (h1 := s2.1) (h2 := s2.2)
    refine wp_goto (tgt := 30) dX3_fill_95 (by decide) ?_
    exact wp_drop (als' := [vR 4 i, vR 10 j, vI 1, vI x3, vI x4, vI (x5 + 1), vU, vU]) (lle_c (Or.inl rfl) (lle_c (Or.inl rfl) (lle_c (Or.inl rfl) (lle_c (Or.inl rfl) (lle_c (Or.inl rfl) (lle_c (Or.inl rfl) (lle_c (Or.inr rfl) (lle_c (Or.inr rfl) lle_n)))))))) h
