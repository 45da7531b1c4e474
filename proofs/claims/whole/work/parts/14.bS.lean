theorem dX5_collect_0 : decode cX5_collect 0 = .ok (.aload_n 0, 1) := by decide +kernel
theorem dX5_collect_1 : decode cX5_collect 1 = .ok (.iconst 0, 1) := by decide +kernel
theorem dX5_collect_2 : decode cX5_collect 2 = .ok (.putfield 61, 3) := by decide +kernel
theorem dX5_collect_5 : decode cX5_collect 5 = .ok (.iconst 0, 1) := by decide +kernel
theorem dX5_collect_6 : decode cX5_collect 6 = .ok (.istore_n 3, 1) := by decide +kernel
theorem dX5_collect_7 : decode cX5_collect 7 = .ok (.iload_n 3, 1) := by decide +kernel
theorem dX5_collect_8 : decode cX5_collect 8 = .ok (.aload_n 1, 1) := by decide +kernel
theorem dX5_collect_9 : decode cX5_collect 9 = .ok (.getfield 21, 3) := by decide +kernel
theorem dX5_collect_12 : decode cX5_collect 12 = .ok (.getfield 46, 3) := by decide +kernel
theorem dX5_collect_15 : decode cX5_collect 15 = .ok (.if_icmp .ge 52, 3) := by decide +kernel
theorem dX5_collect_18 : decode cX5_collect 18 = .ok (.aload_n 1, 1) := by decide +kernel
theorem dX5_collect_19 : decode cX5_collect 19 = .ok (.getfield 21, 3) := by decide +kernel
theorem dX5_collect_22 : decode cX5_collect 22 = .ok (.getfield 76, 3) := by decide +kernel
theorem dX5_collect_25 : decode cX5_collect 25 = .ok (.iload_n 3, 1) := by decide +kernel
theorem dX5_collect_26 : decode cX5_collect 26 = .ok (.iaload, 1) := by decide +kernel
theorem dX5_collect_27 : decode cX5_collect 27 = .ok (.istore 4, 2) := by decide +kernel
theorem dX5_collect_29 : decode cX5_collect 29 = .ok (.aload_n 0, 1) := by decide +kernel
theorem dX5_collect_30 : decode cX5_collect 30 = .ok (.getfield 9, 3) := by decide +kernel
theorem dX5_collect_33 : decode cX5_collect 33 = .ok (.iload 4, 2) := by decide +kernel
theorem dX5_collect_35 : decode cX5_collect 35 = .ok (.iaload, 1) := by decide +kernel
theorem dX5_collect_36 : decode cX5_collect 36 = .ok (.iload_n 2, 1) := by decide +kernel
theorem dX5_collect_37 : decode cX5_collect 37 = .ok (.if_icmp .ne 24, 3) := by decide +kernel
theorem dX5_collect_40 : decode cX5_collect 40 = .ok (.aload_n 0, 1) := by decide +kernel
theorem dX5_collect_41 : decode cX5_collect 41 = .ok (.getfield 18, 3) := by decide +kernel
theorem dX5_collect_44 : decode cX5_collect 44 = .ok (.aload_n 0, 1) := by decide +kernel
theorem dX5_collect_45 : decode cX5_collect 45 = .ok (.getfield 61, 3) := by decide +kernel
theorem dX5_collect_48 : decode cX5_collect 48 = .ok (.iload 4, 2) := by decide +kernel
theorem dX5_collect_50 : decode cX5_collect 50 = .ok (.iastore, 1) := by decide +kernel
theorem dX5_collect_51 : decode cX5_collect 51 = .ok (.aload_n 0, 1) := by decide +kernel
theorem dX5_collect_52 : decode cX5_collect 52 = .ok (.dup, 1) := by decide +kernel
theorem dX5_collect_53 : decode cX5_collect 53 = .ok (.getfield 61, 3) := by decide +kernel
theorem dX5_collect_56 : decode cX5_collect 56 = .ok (.iconst 1, 1) := by decide +kernel
theorem dX5_collect_57 : decode cX5_collect 57 = .ok (.iadd, 1) := by decide +kernel
theorem dX5_collect_58 : decode cX5_collect 58 = .ok (.putfield 61, 3) := by decide +kernel
theorem dX5_collect_61 : decode cX5_collect 61 = .ok (.iinc 3 1, 3) := by decide +kernel
theorem dX5_collect_64 : decode cX5_collect 64 = .ok (.goto (-57), 3) := by decide +kernel
theorem dX5_collect_67 : decode cX5_collect 67 = .ok (.return_, 1) := by decide +kernel
theorem b_X5_collect_0 {i : Nat} {j : Nat} {x2 : Int} {σ : St} {Q : Res → St → Prop} (h : WP mX5_collect 7 [vR 6 i, vR 2 j, vI x2, vI 0, vU] [] (up σ 6 i 3 0) Q) : WP mX5_collect 0 [vR 6 i, vR 2 j, vI x2, vU, vU] [] σ Q := by
  refine wp_aload_n dX5_collect_0 rfl rfl ?_
  refine wp_iconst dX5_collect_1 rfl ?_
  refine wp_putI dX5_collect_2 fp_CustomValley_Search_61 rfl rfl rfl ?_
  refine wp_iconst dX5_collect_5 rfl ?_
  refine wp_istore_n dX5_collect_6 rfl (by decide) rfl rfl ?_
  exact h
theorem b_X5_collect_7 {i : Nat} {j : Nat} {x2 : Int} {x3 : Int} {σ : St} {Q : Res → St → Prop} (h : (((σ 10 j 12) ≤ x3) → (Q (.inl none) σ)) ∧ ((x3 < (σ 10 j 12)) → ((0 ≤ x3 ∧ x3 < 1024) ∧ ((0 ≤ σ 61 j x3.toNat ∧ (σ 61 j x3.toNat) < 1024) ∧ ((((σ 37 i ((σ 61 j x3.toNat).toNat)) ≠ x2) → ((in32 (x3 + 1)) ∧ (WP mX5_collect 7 [vR 6 i, vR 2 j, vI x2, vI (x3 + 1), vU] [] σ Q))) ∧ (((σ 37 i ((σ 61 j x3.toNat).toNat)) = x2) → ((0 ≤ σ 6 i 3 ∧ (σ 6 i 3) < 1024) ∧ ((in32 ((σ 6 i 3) + 1)) ∧ ((in32 (x3 + 1)) ∧ (WP mX5_collect 7 [vR 6 i, vR 2 j, vI x2, vI (x3 + 1), vU] [] (up (up σ 39 i ((σ 6 i 3).toNat) (σ 61 j x3.toNat)) 6 i 3 ((σ 6 i 3) + 1)) Q)))))))))) : WP mX5_collect 7 [vR 6 i, vR 2 j, vI x2, vI x3, vU] [] σ Q := by
  refine wp_iload_n dX5_collect_7 rfl rfl ?_
  refine wp_aload_n dX5_collect_8 rfl rfl ?_
  refine wp_getR dX5_collect_9 fl_CustomValley_Search_21 rfl rfl ?_
  refine wp_getI dX5_collect_12 fl_CustomValley_Search_46 rfl rfl rfl ?_
  refine wp_icmp_ge (tgt := 67) dX5_collect_15 (by decide) (fun hc => ?_) (fun hc => ?_)
  · replace h := h.1 hc
    exact wp_ret dX5_collect_67 rfl h
  · replace h := h.2 hc
    refine wp_aload_n dX5_collect_18 rfl rfl ?_
    refine wp_getR dX5_collect_19 fl_CustomValley_Search_21 rfl rfl ?_
    refine wp_getR dX5_collect_22 fl_CustomValley_Search_76 rfl rfl ?_
    refine wp_iload_n dX5_collect_25 rfl rfl ?_
    have s6 := h.1
    replace h := h.2
    refine wp_iaload dX5_collect_26 rfl rfl s6.1 s6.2 ?_
    refine wp_istore dX5_collect_27 (by decide) rfl rfl ?_
    refine wp_aload_n dX5_collect_29 rfl rfl ?_
    refine wp_getR dX5_collect_30 fl_CustomValley_Search_9 rfl rfl ?_
    refine wp_iload dX5_collect_33 rfl ?_
    have s5 := h.1
    replace h := h.2
    refine wp_iaload dX5_collect_35 rfl rfl s5.1 s5.2 ?_
    refine wp_iload_n dX5_collect_36 rfl rfl ?_
    refine wp_icmp_ne (tgt := 61) dX5_collect_37 (by decide) (fun hc => ?_) (fun hc => ?_)
    · replace h := h.1 hc
      have s1 := h.1
      replace h := h.2
      refine wp_iinc dX5_collect_61 rfl (by decide) rfl rfl ?_ (h1 := s1.1) (h2 := s1.2)
      refine wp_goto (tgt := 7) dX5_collect_64 (by decide) ?_
      exact wp_drop (als' := [vR 6 i, vR 2 j, vI x2, vI (x3 + 1), vU]) (lle_c (Or.inl rfl) (lle_c (Or.inl rfl) (lle_c (Or.inl rfl) (lle_c (Or.inl rfl) (lle_c (Or.inr rfl) lle_n))))) h
    · replace h := h.2 hc
      refine wp_aload_n dX5_collect_40 rfl rfl ?_
      refine wp_getR dX5_collect_41 fl_CustomValley_Search_18 rfl rfl ?_
      refine wp_aload_n dX5_collect_44 rfl rfl ?_
      refine wp_getI dX5_collect_45 fl_CustomValley_Search_61 rfl rfl rfl ?_
      refine wp_iload dX5_collect_48 rfl ?_
      have s4 := h.1
      replace h := h.2
      refine wp_iastore dX5_collect_50 rfl rfl s4.1 s4.2 ?_
      refine wp_aload_n dX5_collect_51 rfl rfl ?_
      refine wp_dup dX5_collect_52 ?_
      refine wp_getI dX5_collect_53 fl_CustomValley_Search_61 rfl rfl rfl ?_
      rw [show (up σ 39 i ((σ 6 i 3).toNat) (σ 61 j x3.toNat)) 6 i 3 = σ 6 i 3 from by simp [up]]
      refine wp_iconst dX5_collect_56 rfl ?_
      have s3 := h.1
      replace h := h.2
      refine wp_iadd dX5_collect_57 ?_ (h1 := s3.1) (h2 := s3.2)
      refine wp_putI dX5_collect_58 fp_CustomValley_Search_61 rfl rfl rfl ?_
      have s2 := h.1
      replace h := h.2
      refine wp_iinc dX5_collect_61 rfl (by decide) rfl rfl ?_ (h1 := s2.1) (h2 := s2.2)
      refine wp_goto (tgt := 7) dX5_collect_64 (by decide) ?_
      exact wp_drop (als' := [vR 6 i, vR 2 j, vI x2, vI (x3 + 1), vU]) (lle_c (Or.inl rfl) (lle_c (Or.inl rfl) (lle_c (Or.inl rfl) (lle_c (Or.inl rfl) (lle_c (Or.inr rfl) lle_n))))) h
theorem dX5_lower_0 : decode cX5_lower 0 = .ok (.iload_n 2, 1) := by decide +kernel
theorem dX5_lower_1 : decode cX5_lower 1 = .ok (.aload_n 0, 1) := by decide +kernel
theorem dX5_lower_2 : decode cX5_lower 2 = .ok (.getfield 9, 3) := by decide +kernel
theorem dX5_lower_5 : decode cX5_lower 5 = .ok (.iload_n 1, 1) := by decide +kernel
theorem dX5_lower_6 : decode cX5_lower 6 = .ok (.iaload, 1) := by decide +kernel
theorem dX5_lower_7 : decode cX5_lower 7 = .ok (.if_icmp .lt 4, 3) := by decide +kernel
theorem dX5_lower_10 : decode cX5_lower 10 = .ok (.return_, 1) := by decide +kernel
theorem dX5_lower_11 : decode cX5_lower 11 = .ok (.aload_n 0, 1) := by decide +kernel
theorem dX5_lower_12 : decode cX5_lower 12 = .ok (.getfield 9, 3) := by decide +kernel
theorem dX5_lower_15 : decode cX5_lower 15 = .ok (.iload_n 1, 1) := by decide +kernel
theorem dX5_lower_16 : decode cX5_lower 16 = .ok (.iload_n 2, 1) := by decide +kernel
theorem dX5_lower_17 : decode cX5_lower 17 = .ok (.iastore, 1) := by decide +kernel
theorem dX5_lower_18 : decode cX5_lower 18 = .ok (.iload_n 2, 1) := by decide +kernel
theorem dX5_lower_19 : decode cX5_lower 19 = .ok (.iload_n 3, 1) := by decide +kernel
theorem dX5_lower_20 : decode cX5_lower 20 = .ok (.if_icmp .ne 33, 3) := by decide +kernel
theorem dX5_lower_23 : decode cX5_lower 23 = .ok (.aload_n 0, 1) := by decide +kernel
theorem dX5_lower_24 : decode cX5_lower 24 = .ok (.getfield 61, 3) := by decide +kernel
theorem dX5_lower_27 : decode cX5_lower 27 = .ok (.sipush 1024, 3) := by decide +kernel
theorem dX5_lower_30 : decode cX5_lower 30 = .ok (.if_icmp .ge 23, 3) := by decide +kernel
theorem dX5_lower_33 : decode cX5_lower 33 = .ok (.aload_n 0, 1) := by decide +kernel
theorem dX5_lower_34 : decode cX5_lower 34 = .ok (.getfield 18, 3) := by decide +kernel
theorem dX5_lower_37 : decode cX5_lower 37 = .ok (.aload_n 0, 1) := by decide +kernel
theorem dX5_lower_38 : decode cX5_lower 38 = .ok (.getfield 61, 3) := by decide +kernel
theorem dX5_lower_41 : decode cX5_lower 41 = .ok (.iload_n 1, 1) := by decide +kernel
theorem dX5_lower_42 : decode cX5_lower 42 = .ok (.iastore, 1) := by decide +kernel
theorem dX5_lower_43 : decode cX5_lower 43 = .ok (.aload_n 0, 1) := by decide +kernel
theorem dX5_lower_44 : decode cX5_lower 44 = .ok (.dup, 1) := by decide +kernel
theorem dX5_lower_45 : decode cX5_lower 45 = .ok (.getfield 61, 3) := by decide +kernel
theorem dX5_lower_48 : decode cX5_lower 48 = .ok (.iconst 1, 1) := by decide +kernel
theorem dX5_lower_49 : decode cX5_lower 49 = .ok (.iadd, 1) := by decide +kernel
theorem dX5_lower_50 : decode cX5_lower 50 = .ok (.putfield 61, 3) := by decide +kernel
theorem dX5_lower_53 : decode cX5_lower 53 = .ok (.return_, 1) := by decide +kernel
theorem b_X5_lower_0 {i : Nat} {x1 : Int} {x2 : Int} {x3 : Int} {σ : St} {Q : Res → St → Prop} (h : (0 ≤ x1 ∧ x1 < 1024) ∧ (((x2 < (σ 37 i x1.toNat)) → ((0 ≤ x1 ∧ x1 < 1024) ∧ (((x2 ≠ x3) → (Q (.inl none) (up σ 37 i x1.toNat x2))) ∧ ((x2 = x3) → (((1024 ≤ (σ 6 i 3)) → (Q (.inl none) (up σ 37 i x1.toNat x2))) ∧ (((σ 6 i 3) < 1024) → ((0 ≤ σ 6 i 3 ∧ (σ 6 i 3) < 1024) ∧ ((in32 ((σ 6 i 3) + 1)) ∧ (Q (.inl none) (up (up (up σ 37 i x1.toNat x2) 39 i ((σ 6 i 3).toNat) x1) 6 i 3 ((σ 6 i 3) + 1))))))))))) ∧ (((σ 37 i x1.toNat) ≤ x2) → (Q (.inl none) σ)))) : WP mX5_lower 0 [vR 6 i, vI x1, vI x2, vI x3] [] σ Q := by
  refine wp_iload_n dX5_lower_0 rfl rfl ?_
  refine wp_aload_n dX5_lower_1 rfl rfl ?_
  refine wp_getR dX5_lower_2 fl_CustomValley_Search_9 rfl rfl ?_
  refine wp_iload_n dX5_lower_5 rfl rfl ?_
  have s4 := h.1
  replace h := h.2
  refine wp_iaload dX5_lower_6 rfl rfl s4.1 s4.2 ?_
  refine wp_icmp_lt (tgt := 11) dX5_lower_7 (by decide) (fun hc => ?_) (fun hc => ?_)
  · replace h := h.1 hc
    refine wp_aload_n dX5_lower_11 rfl rfl ?_
    refine wp_getR dX5_lower_12 fl_CustomValley_Search_9 rfl rfl ?_
    refine wp_iload_n dX5_lower_15 rfl rfl ?_
    refine wp_iload_n dX5_lower_16 rfl rfl ?_
    have s3 := h.1
    replace h := h.2
    refine wp_iastore dX5_lower_17 rfl rfl s3.1 s3.2 ?_
    refine wp_iload_n dX5_lower_18 rfl rfl ?_
    refine wp_iload_n dX5_lower_19 rfl rfl ?_
    refine wp_icmp_ne (tgt := 53) dX5_lower_20 (by decide) (fun hc => ?_) (fun hc => ?_)
    · replace h := h.1 hc
      exact wp_ret dX5_lower_53 rfl h
    · replace h := h.2 hc
      refine wp_aload_n dX5_lower_23 rfl rfl ?_
      refine wp_getI dX5_lower_24 fl_CustomValley_Search_61 rfl rfl rfl ?_
      rw [show (up σ 37 i x1.toNat x2) 6 i 3 = σ 6 i 3 from by simp [up]]
      refine wp_sipush dX5_lower_27 rfl ?_
      refine wp_icmp_ge (tgt := 53) dX5_lower_30 (by decide) (fun hc => ?_) (fun hc => ?_)
      · replace h := h.1 hc
        exact wp_ret dX5_lower_53 rfl h
      · replace h := h.2 hc
        refine wp_aload_n dX5_lower_33 rfl rfl ?_
        refine wp_getR dX5_lower_34 fl_CustomValley_Search_18 rfl rfl ?_
        refine wp_aload_n dX5_lower_37 rfl rfl ?_
        refine wp_getI dX5_lower_38 fl_CustomValley_Search_61 rfl rfl rfl ?_
        rw [show (up σ 37 i x1.toNat x2) 6 i 3 = σ 6 i 3 from by simp [up]]
        refine wp_iload_n dX5_lower_41 rfl rfl ?_
        have s2 := h.1
        replace h := h.2
        refine wp_iastore dX5_lower_42 rfl rfl s2.1 s2.2 ?_
        refine wp_aload_n dX5_lower_43 rfl rfl ?_
        refine wp_dup dX5_lower_44 ?_
        refine wp_getI dX5_lower_45 fl_CustomValley_Search_61 rfl rfl rfl ?_
        rw [show (up (up σ 37 i x1.toNat x2) 39 i ((σ 6 i 3).toNat) x1) 6 i 3 = σ 6 i 3 from by simp [up]]
        refine wp_iconst dX5_lower_48 rfl ?_
        have s1 := h.1
        replace h := h.2
        refine wp_iadd dX5_lower_49 ?_ (h1 := s1.1) (h2 := s1.2)
        refine wp_putI dX5_lower_50 fp_CustomValley_Search_61 rfl rfl rfl ?_
        exact wp_ret dX5_lower_53 rfl h
  · replace h := h.2 hc
    exact wp_ret dX5_lower_10 rfl h
theorem dX5_backFrom_0 : decode cX5_backFrom 0 = .ok (.iconst 0, 1) := by decide +kernel
theorem dX5_backFrom_1 : decode cX5_backFrom 1 = .ok (.istore 4, 2) := by decide +kernel
theorem dX5_backFrom_3 : decode cX5_backFrom 3 = .ok (.iload 4, 2) := by decide +kernel
theorem dX5_backFrom_5 : decode cX5_backFrom 5 = .ok (.aload_n 1, 1) := by decide +kernel
theorem dX5_backFrom_6 : decode cX5_backFrom 6 = .ok (.getfield 21, 3) := by decide +kernel
theorem dX5_backFrom_9 : decode cX5_backFrom 9 = .ok (.getfield 83, 3) := by decide +kernel
theorem dX5_backFrom_12 : decode cX5_backFrom 12 = .ok (.if_icmp .ge 55, 3) := by decide +kernel
theorem dX5_backFrom_15 : decode cX5_backFrom 15 = .ok (.aload_n 1, 1) := by decide +kernel
theorem dX5_backFrom_16 : decode cX5_backFrom 16 = .ok (.iload_n 2, 1) := by decide +kernel
theorem dX5_backFrom_17 : decode cX5_backFrom 17 = .ok (.iload 4, 2) := by decide +kernel
theorem dX5_backFrom_19 : decode cX5_backFrom 19 = .ok (.invokevirtual 86, 3) := by decide +kernel
theorem dX5_backFrom_22 : decode cX5_backFrom 22 = .ok (.istore 5, 2) := by decide +kernel
theorem dX5_backFrom_24 : decode cX5_backFrom 24 = .ok (.aload_n 0, 1) := by decide +kernel
theorem dX5_backFrom_25 : decode cX5_backFrom 25 = .ok (.getfield 9, 3) := by decide +kernel
theorem dX5_backFrom_28 : decode cX5_backFrom 28 = .ok (.iload 5, 2) := by decide +kernel
theorem dX5_backFrom_30 : decode cX5_backFrom 30 = .ok (.iaload, 1) := by decide +kernel
theorem dX5_backFrom_31 : decode cX5_backFrom 31 = .ok (.iload_n 3, 1) := by decide +kernel
theorem dX5_backFrom_32 : decode cX5_backFrom 32 = .ok (.if_icmp .le 29, 3) := by decide +kernel
theorem dX5_backFrom_35 : decode cX5_backFrom 35 = .ok (.aload_n 0, 1) := by decide +kernel
theorem dX5_backFrom_36 : decode cX5_backFrom 36 = .ok (.iload 5, 2) := by decide +kernel
theorem dX5_backFrom_38 : decode cX5_backFrom 38 = .ok (.iload_n 3, 1) := by decide +kernel
theorem dX5_backFrom_39 : decode cX5_backFrom 39 = .ok (.aload_n 1, 1) := by decide +kernel
theorem dX5_backFrom_40 : decode cX5_backFrom 40 = .ok (.iload 5, 2) := by decide +kernel
theorem dX5_backFrom_42 : decode cX5_backFrom 42 = .ok (.iload_n 2, 1) := by decide +kernel
theorem dX5_backFrom_43 : decode cX5_backFrom 43 = .ok (.aload_n 1, 1) := by decide +kernel
theorem dX5_backFrom_44 : decode cX5_backFrom 44 = .ok (.getfield 21, 3) := by decide +kernel
theorem dX5_backFrom_47 : decode cX5_backFrom 47 = .ok (.getfield 90, 3) := by decide +kernel
theorem dX5_backFrom_50 : decode cX5_backFrom 50 = .ok (.iload 4, 2) := by decide +kernel
theorem dX5_backFrom_52 : decode cX5_backFrom 52 = .ok (.iaload, 1) := by decide +kernel
theorem dX5_backFrom_53 : decode cX5_backFrom 53 = .ok (.invokevirtual 93, 3) := by decide +kernel
theorem dX5_backFrom_56 : decode cX5_backFrom 56 = .ok (.iadd, 1) := by decide +kernel
theorem dX5_backFrom_57 : decode cX5_backFrom 57 = .ok (.iload_n 3, 1) := by decide +kernel
theorem dX5_backFrom_58 : decode cX5_backFrom 58 = .ok (.invokevirtual 97, 3) := by decide +kernel
theorem dX5_backFrom_61 : decode cX5_backFrom 61 = .ok (.iinc 4 1, 3) := by decide +kernel
theorem dX5_backFrom_64 : decode cX5_backFrom 64 = .ok (.goto (-61), 3) := by decide +kernel
theorem dX5_backFrom_67 : decode cX5_backFrom 67 = .ok (.return_, 1) := by decide +kernel
theorem b_X5_backFrom_0 {i : Nat} {j : Nat} {x2 : Int} {x3 : Int} {σ : St} {Q : Res → St → Prop} (h : WP mX5_backFrom 3 [vR 6 i, vR 2 j, vI x2, vI x3, vI 0, vU] [] σ Q) : WP mX5_backFrom 0 [vR 6 i, vR 2 j, vI x2, vI x3, vU, vU] [] σ Q := by
  refine wp_iconst dX5_backFrom_0 rfl ?_
  refine wp_istore dX5_backFrom_1 (by decide) rfl rfl ?_
  exact h
theorem b_X5_backFrom_3 {i : Nat} {j : Nat} {x2 : Int} {x3 : Int} {x4 : Int} {σ : St} {Q : Res → St → Prop} (h : (((σ 10 j 13) ≤ x4) → (Q (.inl none) σ)) ∧ ((x4 < (σ 10 j 13)) → ((0 ≤ x4 ∧ x4 < 40 ∧ in32 (x2 * 10) ∧ in32 ((x2 * 10) + (σ 58 j x4.toNat)) ∧ 0 ≤ (x2 * 10) + (σ 58 j x4.toNat) ∧ ((x2 * 10) + (σ 58 j x4.toNat)) < 10240 ∧ 0 ≤ x4 ∧ x4 < 40 ∧ in32 ((σ 59 j x4.toNat) - (shr (σ 23 j (((x2 * 10) + (σ 58 j x4.toNat)).toNat)) 4)) ∧ 0 ≤ σ 58 j x4.toNat ∧ (σ 58 j x4.toNat) < 11 ∧ in32 (((σ 59 j x4.toNat) - (shr (σ 23 j (((x2 * 10) + (σ 58 j x4.toNat)).toNat)) 4)) * (σ 60 j ((σ 58 j x4.toNat).toNat))) ∧ in32 (x2 + (((σ 59 j x4.toNat) - (shr (σ 23 j (((x2 * 10) + (σ 58 j x4.toNat)).toNat)) 4)) * (σ 60 j ((σ 58 j x4.toNat).toNat))))) ∧ ((0 ≤ x2 + (((σ 59 j x4.toNat) - (shr (σ 23 j (((x2 * 10) + (σ 58 j x4.toNat)).toNat)) 4)) * (σ 60 j ((σ 58 j x4.toNat).toNat))) ∧ (x2 + (((σ 59 j x4.toNat) - (shr (σ 23 j (((x2 * 10) + (σ 58 j x4.toNat)).toNat)) 4)) * (σ 60 j ((σ 58 j x4.toNat).toNat)))) < 1024) ∧ ((((σ 37 i ((x2 + (((σ 59 j x4.toNat) - (shr (σ 23 j (((x2 * 10) + (σ 58 j x4.toNat)).toNat)) 4)) * (σ 60 j ((σ 58 j x4.toNat).toNat)))).toNat)) ≤ x3) → (WP mX5_backFrom 61 [vR 6 i, vR 2 j, vI x2, vI x3, vI x4, vU] [] σ Q)) ∧ ((x3 < (σ 37 i ((x2 + (((σ 59 j x4.toNat) - (shr (σ 23 j (((x2 * 10) + (σ 58 j x4.toNat)).toNat)) 4)) * (σ 60 j ((σ 58 j x4.toNat).toNat)))).toNat))) → ((0 ≤ x4 ∧ x4 < 40) ∧ ((0 ≤ (x2 + (((σ 59 j x4.toNat) - (shr (σ 23 j (((x2 * 10) + (σ 58 j x4.toNat)).toNat)) 4)) * (σ 60 j ((σ 58 j x4.toNat).toNat)))) ∧ (x2 + (((σ 59 j x4.toNat) - (shr (σ 23 j (((x2 * 10) + (σ 58 j x4.toNat)).toNat)) 4)) * (σ 60 j ((σ 58 j x4.toNat).toNat)))) < 1024 ∧ 0 ≤ x2 ∧ x2 < 1024 ∧ 0 ≤ (σ 58 j x4.toNat) ∧ (σ 58 j x4.toNat) < 10 ∧ 0 ≤ ownr σ j x2 (σ 58 j x4.toNat) ∧ ownr σ j x2 (σ 58 j x4.toNat) < 4) ∧ ((in32 (x3 + (prc σ j (x2 + (((σ 59 j x4.toNat) - (shr (σ 23 j (((x2 * 10) + (σ 58 j x4.toNat)).toNat)) 4)) * (σ 60 j ((σ 58 j x4.toNat).toNat)))) x2 (σ 58 j x4.toNat)))) ∧ (WP mX5_lower 0 [vR 6 i, vI (x2 + (((σ 59 j x4.toNat) - (shr (σ 23 j (((x2 * 10) + (σ 58 j x4.toNat)).toNat)) 4)) * (σ 60 j ((σ 58 j x4.toNat).toNat)))), vI (x3 + (prc σ j (x2 + (((σ 59 j x4.toNat) - (shr (σ 23 j (((x2 * 10) + (σ 58 j x4.toNat)).toNat)) 4)) * (σ 60 j ((σ 58 j x4.toNat).toNat)))) x2 (σ 58 j x4.toNat))), vI x3] [] σ (CT mX5_backFrom 61 [vR 6 i, vR 2 j, vI x2, vI x3, vI x4, vU] [] Q))))))))))) : WP mX5_backFrom 3 [vR 6 i, vR 2 j, vI x2, vI x3, vI x4, vU] [] σ Q := by
  refine wp_iload dX5_backFrom_3 rfl ?_
  refine wp_aload_n dX5_backFrom_5 rfl rfl ?_
  refine wp_getR dX5_backFrom_6 fl_CustomValley_Search_21 rfl rfl ?_
  refine wp_getI dX5_backFrom_9 fl_CustomValley_Search_83 rfl rfl rfl ?_
  refine wp_icmp_ge (tgt := 67) dX5_backFrom_12 (by decide) (fun hc => ?_) (fun hc => ?_)
  · replace h := h.1 hc
    exact wp_ret dX5_backFrom_67 rfl h
  · replace h := h.2 hc
    refine wp_aload_n dX5_backFrom_15 rfl rfl ?_
    refine wp_iload_n dX5_backFrom_16 rfl rfl ?_
    refine wp_iload dX5_backFrom_17 rfl ?_
    have s5 := h.1
    replace h := h.2
    refine wp_invV (N := mX1_beside) [vI x2, vI x4] dX5_backFrom_19 ml_CustomValley_Search_86 mvX1_beside rfl rfl rfl rfl rfl (Nat.le_of_ble_eq_true rfl) (Nat.le_of_ble_eq_true rfl) (by decide) (by decide) (by decide) ?_
    refine pb_X1_beside s5 ?_
    show WP mX5_backFrom 22 [vR 6 i, vR 2 j, vI x2, vI x3, vI x4, vU] [vI (x2 + (((σ 59 j x4.toNat) - (shr (σ 23 j (((x2 * 10) + (σ 58 j x4.toNat)).toNat)) 4)) * (σ 60 j ((σ 58 j x4.toNat).toNat))))] σ Q
    refine wp_istore dX5_backFrom_22 (by decide) rfl rfl ?_
    refine wp_aload_n dX5_backFrom_24 rfl rfl ?_
    refine wp_getR dX5_backFrom_25 fl_CustomValley_Search_9 rfl rfl ?_
    refine wp_iload dX5_backFrom_28 rfl ?_
    have s4 := h.1
    replace h := h.2
    refine wp_iaload dX5_backFrom_30 rfl rfl s4.1 s4.2 ?_
    refine wp_iload_n dX5_backFrom_31 rfl rfl ?_
    refine wp_icmp_le (tgt := 61) dX5_backFrom_32 (by decide) (fun hc => ?_) (fun hc => ?_)
    · replace h := h.1 hc
      exact wp_drop (als' := [vR 6 i, vR 2 j, vI x2, vI x3, vI x4, vU]) (lle_c (Or.inl rfl) (lle_c (Or.inl rfl) (lle_c (Or.inl rfl) (lle_c (Or.inl rfl) (lle_c (Or.inl rfl) (lle_c (Or.inr rfl) lle_n)))))) h
    · replace h := h.2 hc
      refine wp_aload_n dX5_backFrom_35 rfl rfl ?_
      refine wp_iload dX5_backFrom_36 rfl ?_
      refine wp_iload_n dX5_backFrom_38 rfl rfl ?_
      refine wp_aload_n dX5_backFrom_39 rfl rfl ?_
      refine wp_iload dX5_backFrom_40 rfl ?_
      refine wp_iload_n dX5_backFrom_42 rfl rfl ?_
      refine wp_aload_n dX5_backFrom_43 rfl rfl ?_
      refine wp_getR dX5_backFrom_44 fl_CustomValley_Search_21 rfl rfl ?_
      refine wp_getR dX5_backFrom_47 fl_CustomValley_Search_90 rfl rfl ?_
      refine wp_iload dX5_backFrom_50 rfl ?_
      have s3 := h.1
      replace h := h.2
      refine wp_iaload dX5_backFrom_52 rfl rfl s3.1 s3.2 ?_
      have s2 := h.1
      replace h := h.2
      refine wp_invV (N := mX1_price) [vI (x2 + (((σ 59 j x4.toNat) - (shr (σ 23 j (((x2 * 10) + (σ 58 j x4.toNat)).toNat)) 4)) * (σ 60 j ((σ 58 j x4.toNat).toNat)))), vI x2, vI (σ 58 j x4.toNat)] dX5_backFrom_53 ml_CustomValley_Search_93 mvX1_price rfl rfl rfl rfl rfl (Nat.le_of_ble_eq_true rfl) (Nat.le_of_ble_eq_true rfl) (by decide) (by decide) (by decide) ?_
      refine pb_X1_price s2 ?_
      show WP mX5_backFrom 56 [vR 6 i, vR 2 j, vI x2, vI x3, vI x4, vI (x2 + (((σ 59 j x4.toNat) - (shr (σ 23 j (((x2 * 10) + (σ 58 j x4.toNat)).toNat)) 4)) * (σ 60 j ((σ 58 j x4.toNat).toNat))))] [vI (prc σ j (x2 + (((σ 59 j x4.toNat) - (shr (σ 23 j (((x2 * 10) + (σ 58 j x4.toNat)).toNat)) 4)) * (σ 60 j ((σ 58 j x4.toNat).toNat)))) x2 (σ 58 j x4.toNat)), vI x3, vI (x2 + (((σ 59 j x4.toNat) - (shr (σ 23 j (((x2 * 10) + (σ 58 j x4.toNat)).toNat)) 4)) * (σ 60 j ((σ 58 j x4.toNat).toNat)))), vR 6 i] σ Q
      have s1 := h.1
      replace h := h.2
      refine wp_iadd dX5_backFrom_56 ?_ (h1 := s1.1) (h2 := s1.2)
      refine wp_iload_n dX5_backFrom_57 rfl rfl ?_
      refine wp_invV (N := mX5_lower) [vI (x2 + (((σ 59 j x4.toNat) - (shr (σ 23 j (((x2 * 10) + (σ 58 j x4.toNat)).toNat)) 4)) * (σ 60 j ((σ 58 j x4.toNat).toNat)))), vI (x3 + (prc σ j (x2 + (((σ 59 j x4.toNat) - (shr (σ 23 j (((x2 * 10) + (σ 58 j x4.toNat)).toNat)) 4)) * (σ 60 j ((σ 58 j x4.toNat).toNat)))) x2 (σ 58 j x4.toNat))), vI x3] dX5_backFrom_58 ml_CustomValley_Search_97 mvX5_lower rfl rfl rfl rfl rfl (Nat.le_of_ble_eq_true rfl) (Nat.le_of_ble_eq_true rfl) (by decide) (by decide) (by decide) ?_
      exact WP.mono h (ct_drop (lle_c (Or.inl rfl) (lle_c (Or.inl rfl) (lle_c (Or.inl rfl) (lle_c (Or.inl rfl) (lle_c (Or.inl rfl) (lle_c (Or.inr rfl) lle_n)))))))
theorem b_X5_backFrom_61 {i : Nat} {j : Nat} {x2 : Int} {x3 : Int} {x4 : Int} {σ : St} {Q : Res → St → Prop} (h : (in32 (x4 + 1)) ∧ (WP mX5_backFrom 3 [vR 6 i, vR 2 j, vI x2, vI x3, vI (x4 + 1), vU] [] σ Q)) : WP mX5_backFrom 61 [vR 6 i, vR 2 j, vI x2, vI x3, vI x4, vU] [] σ Q := by
  have s1 := h.1
  replace h := h.2
  refine wp_iinc dX5_backFrom_61 rfl (by decide) rfl rfl ?_ (h1 := s1.1) (h2 := s1.2)
  refine wp_goto (tgt := 3) dX5_backFrom_64 (by decide) ?_
  exact h
theorem dX5_forthFrom_0 : decode cX5_forthFrom 0 = .ok (.iconst 0, 1) := by decide +kernel
theorem dX5_forthFrom_1 : decode cX5_forthFrom 1 = .ok (.istore 4, 2) := by decide +kernel
theorem dX5_forthFrom_3 : decode cX5_forthFrom 3 = .ok (.iload 4, 2) := by decide +kernel
theorem dX5_forthFrom_5 : decode cX5_forthFrom 5 = .ok (.aload_n 1, 1) := by decide +kernel
theorem dX5_forthFrom_6 : decode cX5_forthFrom 6 = .ok (.getfield 21, 3) := by decide +kernel
theorem dX5_forthFrom_9 : decode cX5_forthFrom 9 = .ok (.getfield 83, 3) := by decide +kernel
theorem dX5_forthFrom_12 : decode cX5_forthFrom 12 = .ok (.if_icmp .ge 55, 3) := by decide +kernel
theorem dX5_forthFrom_15 : decode cX5_forthFrom 15 = .ok (.aload_n 1, 1) := by decide +kernel
theorem dX5_forthFrom_16 : decode cX5_forthFrom 16 = .ok (.iload_n 2, 1) := by decide +kernel
theorem dX5_forthFrom_17 : decode cX5_forthFrom 17 = .ok (.iload 4, 2) := by decide +kernel
theorem dX5_forthFrom_19 : decode cX5_forthFrom 19 = .ok (.invokevirtual 86, 3) := by decide +kernel
theorem dX5_forthFrom_22 : decode cX5_forthFrom 22 = .ok (.istore 5, 2) := by decide +kernel
theorem dX5_forthFrom_24 : decode cX5_forthFrom 24 = .ok (.aload_n 0, 1) := by decide +kernel
theorem dX5_forthFrom_25 : decode cX5_forthFrom 25 = .ok (.getfield 9, 3) := by decide +kernel
theorem dX5_forthFrom_28 : decode cX5_forthFrom 28 = .ok (.iload 5, 2) := by decide +kernel
theorem dX5_forthFrom_30 : decode cX5_forthFrom 30 = .ok (.iaload, 1) := by decide +kernel
theorem dX5_forthFrom_31 : decode cX5_forthFrom 31 = .ok (.iload_n 3, 1) := by decide +kernel
theorem dX5_forthFrom_32 : decode cX5_forthFrom 32 = .ok (.if_icmp .le 29, 3) := by decide +kernel
theorem dX5_forthFrom_35 : decode cX5_forthFrom 35 = .ok (.aload_n 0, 1) := by decide +kernel
theorem dX5_forthFrom_36 : decode cX5_forthFrom 36 = .ok (.iload 5, 2) := by decide +kernel
theorem dX5_forthFrom_38 : decode cX5_forthFrom 38 = .ok (.iload_n 3, 1) := by decide +kernel
theorem dX5_forthFrom_39 : decode cX5_forthFrom 39 = .ok (.aload_n 1, 1) := by decide +kernel
theorem dX5_forthFrom_40 : decode cX5_forthFrom 40 = .ok (.iload_n 2, 1) := by decide +kernel
theorem dX5_forthFrom_41 : decode cX5_forthFrom 41 = .ok (.iload 5, 2) := by decide +kernel
theorem dX5_forthFrom_43 : decode cX5_forthFrom 43 = .ok (.aload_n 1, 1) := by decide +kernel
theorem dX5_forthFrom_44 : decode cX5_forthFrom 44 = .ok (.getfield 21, 3) := by decide +kernel
theorem dX5_forthFrom_47 : decode cX5_forthFrom 47 = .ok (.getfield 90, 3) := by decide +kernel
theorem dX5_forthFrom_50 : decode cX5_forthFrom 50 = .ok (.iload 4, 2) := by decide +kernel
theorem dX5_forthFrom_52 : decode cX5_forthFrom 52 = .ok (.iaload, 1) := by decide +kernel
theorem dX5_forthFrom_53 : decode cX5_forthFrom 53 = .ok (.invokevirtual 93, 3) := by decide +kernel
theorem dX5_forthFrom_56 : decode cX5_forthFrom 56 = .ok (.iadd, 1) := by decide +kernel
theorem dX5_forthFrom_57 : decode cX5_forthFrom 57 = .ok (.iload_n 3, 1) := by decide +kernel
theorem dX5_forthFrom_58 : decode cX5_forthFrom 58 = .ok (.invokevirtual 97, 3) := by decide +kernel
theorem dX5_forthFrom_61 : decode cX5_forthFrom 61 = .ok (.iinc 4 1, 3) := by decide +kernel
theorem dX5_forthFrom_64 : decode cX5_forthFrom 64 = .ok (.goto (-61), 3) := by decide +kernel
theorem dX5_forthFrom_67 : decode cX5_forthFrom 67 = .ok (.return_, 1) := by decide +kernel
theorem b_X5_forthFrom_0 {i : Nat} {j : Nat} {x2 : Int} {x3 : Int} {σ : St} {Q : Res → St → Prop} (h : WP mX5_forthFrom 3 [vR 6 i, vR 2 j, vI x2, vI x3, vI 0, vU] [] σ Q) : WP mX5_forthFrom 0 [vR 6 i, vR 2 j, vI x2, vI x3, vU, vU] [] σ Q := by
  refine wp_iconst dX5_forthFrom_0 rfl ?_
  refine wp_istore dX5_forthFrom_1 (by decide) rfl rfl ?_
  exact h
theorem b_X5_forthFrom_3 {i : Nat} {j : Nat} {x2 : Int} {x3 : Int} {x4 : Int} {σ : St} {Q : Res → St → Prop} (h : (((σ 10 j 13) ≤ x4) → (Q (.inl none) σ)) ∧ ((x4 < (σ 10 j 13)) → ((0 ≤ x4 ∧ x4 < 40 ∧ in32 (x2 * 10) ∧ in32 ((x2 * 10) + (σ 58 j x4.toNat)) ∧ 0 ≤ (x2 * 10) + (σ 58 j x4.toNat) ∧ ((x2 * 10) + (σ 58 j x4.toNat)) < 10240 ∧ 0 ≤ x4 ∧ x4 < 40 ∧ in32 ((σ 59 j x4.toNat) - (shr (σ 23 j (((x2 * 10) + (σ 58 j x4.toNat)).toNat)) 4)) ∧ 0 ≤ σ 58 j x4.toNat ∧ (σ 58 j x4.toNat) < 11 ∧ in32 (((σ 59 j x4.toNat) - (shr (σ 23 j (((x2 * 10) + (σ 58 j x4.toNat)).toNat)) 4)) * (σ 60 j ((σ 58 j x4.toNat).toNat))) ∧ in32 (x2 + (((σ 59 j x4.toNat) - (shr (σ 23 j (((x2 * 10) + (σ 58 j x4.toNat)).toNat)) 4)) * (σ 60 j ((σ 58 j x4.toNat).toNat))))) ∧ ((0 ≤ x2 + (((σ 59 j x4.toNat) - (shr (σ 23 j (((x2 * 10) + (σ 58 j x4.toNat)).toNat)) 4)) * (σ 60 j ((σ 58 j x4.toNat).toNat))) ∧ (x2 + (((σ 59 j x4.toNat) - (shr (σ 23 j (((x2 * 10) + (σ 58 j x4.toNat)).toNat)) 4)) * (σ 60 j ((σ 58 j x4.toNat).toNat)))) < 1024) ∧ ((((σ 37 i ((x2 + (((σ 59 j x4.toNat) - (shr (σ 23 j (((x2 * 10) + (σ 58 j x4.toNat)).toNat)) 4)) * (σ 60 j ((σ 58 j x4.toNat).toNat)))).toNat)) ≤ x3) → (WP mX5_forthFrom 61 [vR 6 i, vR 2 j, vI x2, vI x3, vI x4, vU] [] σ Q)) ∧ ((x3 < (σ 37 i ((x2 + (((σ 59 j x4.toNat) - (shr (σ 23 j (((x2 * 10) + (σ 58 j x4.toNat)).toNat)) 4)) * (σ 60 j ((σ 58 j x4.toNat).toNat)))).toNat))) → ((0 ≤ x4 ∧ x4 < 40) ∧ ((0 ≤ x2 ∧ x2 < 1024 ∧ 0 ≤ (x2 + (((σ 59 j x4.toNat) - (shr (σ 23 j (((x2 * 10) + (σ 58 j x4.toNat)).toNat)) 4)) * (σ 60 j ((σ 58 j x4.toNat).toNat)))) ∧ (x2 + (((σ 59 j x4.toNat) - (shr (σ 23 j (((x2 * 10) + (σ 58 j x4.toNat)).toNat)) 4)) * (σ 60 j ((σ 58 j x4.toNat).toNat)))) < 1024 ∧ 0 ≤ (σ 58 j x4.toNat) ∧ (σ 58 j x4.toNat) < 10 ∧ 0 ≤ ownr σ j (x2 + (((σ 59 j x4.toNat) - (shr (σ 23 j (((x2 * 10) + (σ 58 j x4.toNat)).toNat)) 4)) * (σ 60 j ((σ 58 j x4.toNat).toNat)))) (σ 58 j x4.toNat) ∧ ownr σ j (x2 + (((σ 59 j x4.toNat) - (shr (σ 23 j (((x2 * 10) + (σ 58 j x4.toNat)).toNat)) 4)) * (σ 60 j ((σ 58 j x4.toNat).toNat)))) (σ 58 j x4.toNat) < 4) ∧ ((in32 (x3 + (prc σ j x2 (x2 + (((σ 59 j x4.toNat) - (shr (σ 23 j (((x2 * 10) + (σ 58 j x4.toNat)).toNat)) 4)) * (σ 60 j ((σ 58 j x4.toNat).toNat)))) (σ 58 j x4.toNat)))) ∧ (WP mX5_lower 0 [vR 6 i, vI (x2 + (((σ 59 j x4.toNat) - (shr (σ 23 j (((x2 * 10) + (σ 58 j x4.toNat)).toNat)) 4)) * (σ 60 j ((σ 58 j x4.toNat).toNat)))), vI (x3 + (prc σ j x2 (x2 + (((σ 59 j x4.toNat) - (shr (σ 23 j (((x2 * 10) + (σ 58 j x4.toNat)).toNat)) 4)) * (σ 60 j ((σ 58 j x4.toNat).toNat)))) (σ 58 j x4.toNat))), vI x3] [] σ (CT mX5_forthFrom 61 [vR 6 i, vR 2 j, vI x2, vI x3, vI x4, vU] [] Q))))))))))) : WP mX5_forthFrom 3 [vR 6 i, vR 2 j, vI x2, vI x3, vI x4, vU] [] σ Q := by
  refine wp_iload dX5_forthFrom_3 rfl ?_
  refine wp_aload_n dX5_forthFrom_5 rfl rfl ?_
  refine wp_getR dX5_forthFrom_6 fl_CustomValley_Search_21 rfl rfl ?_
  refine wp_getI dX5_forthFrom_9 fl_CustomValley_Search_83 rfl rfl rfl ?_
  refine wp_icmp_ge (tgt := 67) dX5_forthFrom_12 (by decide) (fun hc => ?_) (fun hc => ?_)
  · replace h := h.1 hc
    exact wp_ret dX5_forthFrom_67 rfl h
  · replace h := h.2 hc
    refine wp_aload_n dX5_forthFrom_15 rfl rfl ?_
    refine wp_iload_n dX5_forthFrom_16 rfl rfl ?_
    refine wp_iload dX5_forthFrom_17 rfl ?_
    have s5 := h.1
    replace h := h.2
    refine wp_invV (N := mX1_beside) [vI x2, vI x4] dX5_forthFrom_19 ml_CustomValley_Search_86 mvX1_beside rfl rfl rfl rfl rfl (Nat.le_of_ble_eq_true rfl) (Nat.le_of_ble_eq_true rfl) (by decide) (by decide) (by decide) ?_
    refine pb_X1_beside s5 ?_
    show WP mX5_forthFrom 22 [vR 6 i, vR 2 j, vI x2, vI x3, vI x4, vU] [vI (x2 + (((σ 59 j x4.toNat) - (shr (σ 23 j (((x2 * 10) + (σ 58 j x4.toNat)).toNat)) 4)) * (σ 60 j ((σ 58 j x4.toNat).toNat))))] σ Q
    refine wp_istore dX5_forthFrom_22 (by decide) rfl rfl ?_
    refine wp_aload_n dX5_forthFrom_24 rfl rfl ?_
    refine wp_getR dX5_forthFrom_25 fl_CustomValley_Search_9 rfl rfl ?_
    refine wp_iload dX5_forthFrom_28 rfl ?_
    have s4 := h.1
    replace h := h.2
    refine wp_iaload dX5_forthFrom_30 rfl rfl s4.1 s4.2 ?_
    refine wp_iload_n dX5_forthFrom_31 rfl rfl ?_
    refine wp_icmp_le (tgt := 61) dX5_forthFrom_32 (by decide) (fun hc => ?_) (fun hc => ?_)
    · replace h := h.1 hc
      exact wp_drop (als' := [vR 6 i, vR 2 j, vI x2, vI x3, vI x4, vU]) (lle_c (Or.inl rfl) (lle_c (Or.inl rfl) (lle_c (Or.inl rfl) (lle_c (Or.inl rfl) (lle_c (Or.inl rfl) (lle_c (Or.inr rfl) lle_n)))))) h
    · replace h := h.2 hc
      refine wp_aload_n dX5_forthFrom_35 rfl rfl ?_
      refine wp_iload dX5_forthFrom_36 rfl ?_
      refine wp_iload_n dX5_forthFrom_38 rfl rfl ?_
      refine wp_aload_n dX5_forthFrom_39 rfl rfl ?_
      refine wp_iload_n dX5_forthFrom_40 rfl rfl ?_
      refine wp_iload dX5_forthFrom_41 rfl ?_
      refine wp_aload_n dX5_forthFrom_43 rfl rfl ?_
      refine wp_getR dX5_forthFrom_44 fl_CustomValley_Search_21 rfl rfl ?_
      refine wp_getR dX5_forthFrom_47 fl_CustomValley_Search_90 rfl rfl ?_
      refine wp_iload dX5_forthFrom_50 rfl ?_
      have s3 := h.1
      replace h := h.2
      refine wp_iaload dX5_forthFrom_52 rfl rfl s3.1 s3.2 ?_
      have s2 := h.1
      replace h := h.2
      refine wp_invV (N := mX1_price) [vI x2, vI (x2 + (((σ 59 j x4.toNat) - (shr (σ 23 j (((x2 * 10) + (σ 58 j x4.toNat)).toNat)) 4)) * (σ 60 j ((σ 58 j x4.toNat).toNat)))), vI (σ 58 j x4.toNat)] dX5_forthFrom_53 ml_CustomValley_Search_93 mvX1_price rfl rfl rfl rfl rfl (Nat.le_of_ble_eq_true rfl) (Nat.le_of_ble_eq_true rfl) (by decide) (by decide) (by decide) ?_
      refine pb_X1_price s2 ?_
      show WP mX5_forthFrom 56 [vR 6 i, vR 2 j, vI x2, vI x3, vI x4, vI (x2 + (((σ 59 j x4.toNat) - (shr (σ 23 j (((x2 * 10) + (σ 58 j x4.toNat)).toNat)) 4)) * (σ 60 j ((σ 58 j x4.toNat).toNat))))] [vI (prc σ j x2 (x2 + (((σ 59 j x4.toNat) - (shr (σ 23 j (((x2 * 10) + (σ 58 j x4.toNat)).toNat)) 4)) * (σ 60 j ((σ 58 j x4.toNat).toNat)))) (σ 58 j x4.toNat)), vI x3, vI (x2 + (((σ 59 j x4.toNat) - (shr (σ 23 j (((x2 * 10) + (σ 58 j x4.toNat)).toNat)) 4)) * (σ 60 j ((σ 58 j x4.toNat).toNat)))), vR 6 i] σ Q
      have s1 := h.1
      replace h := h.2
      refine wp_iadd dX5_forthFrom_56 ?_ (h1 := s1.1) (h2 := s1.2)
      refine wp_iload_n dX5_forthFrom_57 rfl rfl ?_
      refine wp_invV (N := mX5_lower) [vI (x2 + (((σ 59 j x4.toNat) - (shr (σ 23 j (((x2 * 10) + (σ 58 j x4.toNat)).toNat)) 4)) * (σ 60 j ((σ 58 j x4.toNat).toNat)))), vI (x3 + (prc σ j x2 (x2 + (((σ 59 j x4.toNat) - (shr (σ 23 j (((x2 * 10) + (σ 58 j x4.toNat)).toNat)) 4)) * (σ 60 j ((σ 58 j x4.toNat).toNat)))) (σ 58 j x4.toNat))), vI x3] dX5_forthFrom_58 ml_CustomValley_Search_97 mvX5_lower rfl rfl rfl rfl rfl (Nat.le_of_ble_eq_true rfl) (Nat.le_of_ble_eq_true rfl) (by decide) (by decide) (by decide) ?_
      exact WP.mono h (ct_drop (lle_c (Or.inl rfl) (lle_c (Or.inl rfl) (lle_c (Or.inl rfl) (lle_c (Or.inl rfl) (lle_c (Or.inl rfl) (lle_c (Or.inr rfl) lle_n)))))))
theorem b_X5_forthFrom_61 {i : Nat} {j : Nat} {x2 : Int} {x3 : Int} {x4 : Int} {σ : St} {Q : Res → St → Prop} (h : (in32 (x4 + 1)) ∧ (WP mX5_forthFrom 3 [vR 6 i, vR 2 j, vI x2, vI x3, vI (x4 + 1), vU] [] σ Q)) : WP mX5_forthFrom 61 [vR 6 i, vR 2 j, vI x2, vI x3, vI x4, vU] [] σ Q := by
  have s1 := h.1
  replace h := h.2
  refine wp_iinc dX5_forthFrom_61 rfl (by decide) rfl rfl ?_ (h1 := s1.1) (h2 := s1.2)
  refine wp_goto (tgt := 3) dX5_forthFrom_64 (by decide) ?_
  exact h
theorem dX5_leastNext_0 : decode cX5_leastNext 0 = .ok (.ldc 33, 2) := by decide +kernel
theorem dX5_leastNext_2 : decode cX5_leastNext 2 = .ok (.istore_n 3, 1) := by decide +kernel
theorem dX5_leastNext_3 : decode cX5_leastNext 3 = .ok (.iconst 0, 1) := by decide +kernel
theorem dX5_leastNext_4 : decode cX5_leastNext 4 = .ok (.istore 4, 2) := by decide +kernel
theorem dX5_leastNext_6 : decode cX5_leastNext 6 = .ok (.iload 4, 2) := by decide +kernel
theorem dX5_leastNext_8 : decode cX5_leastNext 8 = .ok (.aload_n 1, 1) := by decide +kernel
theorem dX5_leastNext_9 : decode cX5_leastNext 9 = .ok (.getfield 21, 3) := by decide +kernel
theorem dX5_leastNext_12 : decode cX5_leastNext 12 = .ok (.getfield 83, 3) := by decide +kernel
theorem dX5_leastNext_15 : decode cX5_leastNext 15 = .ok (.if_icmp .ge 91, 3) := by decide +kernel
theorem dX5_leastNext_18 : decode cX5_leastNext 18 = .ok (.aload_n 1, 1) := by decide +kernel
theorem dX5_leastNext_19 : decode cX5_leastNext 19 = .ok (.iload_n 2, 1) := by decide +kernel
theorem dX5_leastNext_20 : decode cX5_leastNext 20 = .ok (.iload 4, 2) := by decide +kernel
theorem dX5_leastNext_22 : decode cX5_leastNext 22 = .ok (.invokevirtual 86, 3) := by decide +kernel
theorem dX5_leastNext_25 : decode cX5_leastNext 25 = .ok (.istore 5, 2) := by decide +kernel
theorem dX5_leastNext_27 : decode cX5_leastNext 27 = .ok (.iload 5, 2) := by decide +kernel
theorem dX5_leastNext_29 : decode cX5_leastNext 29 = .ok (.iload_n 3, 1) := by decide +kernel
theorem dX5_leastNext_30 : decode cX5_leastNext 30 = .ok (.if_icmp .ge 25, 3) := by decide +kernel
theorem dX5_leastNext_33 : decode cX5_leastNext 33 = .ok (.aload_n 0, 1) := by decide +kernel
theorem dX5_leastNext_34 : decode cX5_leastNext 34 = .ok (.getfield 15, 3) := by decide +kernel
theorem dX5_leastNext_37 : decode cX5_leastNext 37 = .ok (.iload 5, 2) := by decide +kernel
theorem dX5_leastNext_39 : decode cX5_leastNext 39 = .ok (.iaload, 1) := by decide +kernel
theorem dX5_leastNext_40 : decode cX5_leastNext 40 = .ok (.aload_n 0, 1) := by decide +kernel
theorem dX5_leastNext_41 : decode cX5_leastNext 41 = .ok (.getfield 15, 3) := by decide +kernel
theorem dX5_leastNext_44 : decode cX5_leastNext 44 = .ok (.iload_n 2, 1) := by decide +kernel
theorem dX5_leastNext_45 : decode cX5_leastNext 45 = .ok (.iaload, 1) := by decide +kernel
theorem dX5_leastNext_46 : decode cX5_leastNext 46 = .ok (.iconst 1, 1) := by decide +kernel
theorem dX5_leastNext_47 : decode cX5_leastNext 47 = .ok (.isub, 1) := by decide +kernel
theorem dX5_leastNext_48 : decode cX5_leastNext 48 = .ok (.if_icmp .ne 7, 3) := by decide +kernel
theorem dX5_leastNext_51 : decode cX5_leastNext 51 = .ok (.iconst 1, 1) := by decide +kernel
theorem dX5_leastNext_52 : decode cX5_leastNext 52 = .ok (.goto 4, 3) := by decide +kernel
theorem dX5_leastNext_55 : decode cX5_leastNext 55 = .ok (.iconst 0, 1) := by decide +kernel
theorem dX5_leastNext_56 : decode cX5_leastNext 56 = .ok (.istore 6, 2) := by decide +kernel
theorem dX5_leastNext_58 : decode cX5_leastNext 58 = .ok (.iload 6, 2) := by decide +kernel
theorem dX5_leastNext_60 : decode cX5_leastNext 60 = .ok (.ifCond .eq 40, 3) := by decide +kernel
theorem dX5_leastNext_63 : decode cX5_leastNext 63 = .ok (.aload_n 0, 1) := by decide +kernel
theorem dX5_leastNext_64 : decode cX5_leastNext 64 = .ok (.getfield 9, 3) := by decide +kernel
theorem dX5_leastNext_67 : decode cX5_leastNext 67 = .ok (.iload_n 2, 1) := by decide +kernel
theorem dX5_leastNext_68 : decode cX5_leastNext 68 = .ok (.iaload, 1) := by decide +kernel
theorem dX5_leastNext_69 : decode cX5_leastNext 69 = .ok (.aload_n 0, 1) := by decide +kernel
theorem dX5_leastNext_70 : decode cX5_leastNext 70 = .ok (.getfield 9, 3) := by decide +kernel
theorem dX5_leastNext_73 : decode cX5_leastNext 73 = .ok (.iload 5, 2) := by decide +kernel
theorem dX5_leastNext_75 : decode cX5_leastNext 75 = .ok (.iaload, 1) := by decide +kernel
theorem dX5_leastNext_76 : decode cX5_leastNext 76 = .ok (.aload_n 1, 1) := by decide +kernel
theorem dX5_leastNext_77 : decode cX5_leastNext 77 = .ok (.iload_n 2, 1) := by decide +kernel
theorem dX5_leastNext_78 : decode cX5_leastNext 78 = .ok (.iload 5, 2) := by decide +kernel
theorem dX5_leastNext_80 : decode cX5_leastNext 80 = .ok (.aload_n 1, 1) := by decide +kernel
theorem dX5_leastNext_81 : decode cX5_leastNext 81 = .ok (.getfield 21, 3) := by decide +kernel
theorem dX5_leastNext_84 : decode cX5_leastNext 84 = .ok (.getfield 90, 3) := by decide +kernel
theorem dX5_leastNext_87 : decode cX5_leastNext 87 = .ok (.iload 4, 2) := by decide +kernel
theorem dX5_leastNext_89 : decode cX5_leastNext 89 = .ok (.iaload, 1) := by decide +kernel
theorem dX5_leastNext_90 : decode cX5_leastNext 90 = .ok (.invokevirtual 93, 3) := by decide +kernel
theorem dX5_leastNext_93 : decode cX5_leastNext 93 = .ok (.iadd, 1) := by decide +kernel
theorem dX5_leastNext_94 : decode cX5_leastNext 94 = .ok (.if_icmp .ne 6, 3) := by decide +kernel
theorem dX5_leastNext_97 : decode cX5_leastNext 97 = .ok (.iload 5, 2) := by decide +kernel
theorem dX5_leastNext_99 : decode cX5_leastNext 99 = .ok (.istore_n 3, 1) := by decide +kernel
theorem dX5_leastNext_100 : decode cX5_leastNext 100 = .ok (.iinc 4 1, 3) := by decide +kernel
theorem dX5_leastNext_103 : decode cX5_leastNext 103 = .ok (.goto (-97), 3) := by decide +kernel
theorem dX5_leastNext_106 : decode cX5_leastNext 106 = .ok (.iload_n 3, 1) := by decide +kernel
theorem dX5_leastNext_107 : decode cX5_leastNext 107 = .ok (.ldc 33, 2) := by decide +kernel
theorem dX5_leastNext_109 : decode cX5_leastNext 109 = .ok (.if_icmp .ne 7, 3) := by decide +kernel
theorem dX5_leastNext_112 : decode cX5_leastNext 112 = .ok (.iload_n 2, 1) := by decide +kernel
theorem dX5_leastNext_113 : decode cX5_leastNext 113 = .ok (.goto 4, 3) := by decide +kernel
theorem dX5_leastNext_116 : decode cX5_leastNext 116 = .ok (.iload_n 3, 1) := by decide +kernel
theorem dX5_leastNext_117 : decode cX5_leastNext 117 = .ok (.ireturn, 1) := by decide +kernel
theorem b_X5_leastNext_0 {i : Nat} {j : Nat} {x2 : Int} {σ : St} {Q : Res → St → Prop} (h : WP mX5_leastNext 6 [vR 6 i, vR 2 j, vI x2, vI 1000000, vI 0, vU, vU] [] σ Q) : WP mX5_leastNext 0 [vR 6 i, vR 2 j, vI x2, vU, vU, vU, vU] [] σ Q := by
  refine wp_ldc (n := 1000000) dX5_leastNext_0 ck_CustomValley_Search_33 rfl ?_
  refine wp_istore_n dX5_leastNext_2 rfl (by decide) rfl rfl ?_
  refine wp_iconst dX5_leastNext_3 rfl ?_
  refine wp_istore dX5_leastNext_4 (by decide) rfl rfl ?_
  exact h
theorem b_X5_leastNext_6 {i : Nat} {j : Nat} {x2 : Int} {x3 : Int} {x4 : Int} {σ : St} {Q : Res → St → Prop} (h : (((σ 10 j 13) ≤ x4) → (((x3 ≠ 1000000) → (Q (.inl (some (vI x3))) σ)) ∧ ((x3 = 1000000) → (Q (.inl (some (vI x2))) σ)))) ∧ ((x4 < (σ 10 j 13)) → ((0 ≤ x4 ∧ x4 < 40 ∧ in32 (x2 * 10) ∧ in32 ((x2 * 10) + (σ 58 j x4.toNat)) ∧ 0 ≤ (x2 * 10) + (σ 58 j x4.toNat) ∧ ((x2 * 10) + (σ 58 j x4.toNat)) < 10240 ∧ 0 ≤ x4 ∧ x4 < 40 ∧ in32 ((σ 59 j x4.toNat) - (shr (σ 23 j (((x2 * 10) + (σ 58 j x4.toNat)).toNat)) 4)) ∧ 0 ≤ σ 58 j x4.toNat ∧ (σ 58 j x4.toNat) < 11 ∧ in32 (((σ 59 j x4.toNat) - (shr (σ 23 j (((x2 * 10) + (σ 58 j x4.toNat)).toNat)) 4)) * (σ 60 j ((σ 58 j x4.toNat).toNat))) ∧ in32 (x2 + (((σ 59 j x4.toNat) - (shr (σ 23 j (((x2 * 10) + (σ 58 j x4.toNat)).toNat)) 4)) * (σ 60 j ((σ 58 j x4.toNat).toNat))))) ∧ (((x3 ≤ (x2 + (((σ 59 j x4.toNat) - (shr (σ 23 j (((x2 * 10) + (σ 58 j x4.toNat)).toNat)) 4)) * (σ 60 j ((σ 58 j x4.toNat).toNat))))) → (WP mX5_leastNext 55 [vR 6 i, vR 2 j, vI x2, vI x3, vI x4, vI (x2 + (((σ 59 j x4.toNat) - (shr (σ 23 j (((x2 * 10) + (σ 58 j x4.toNat)).toNat)) 4)) * (σ 60 j ((σ 58 j x4.toNat).toNat)))), vU] [] σ Q)) ∧ (((x2 + (((σ 59 j x4.toNat) - (shr (σ 23 j (((x2 * 10) + (σ 58 j x4.toNat)).toNat)) 4)) * (σ 60 j ((σ 58 j x4.toNat).toNat)))) < x3) → ((0 ≤ x2 + (((σ 59 j x4.toNat) - (shr (σ 23 j (((x2 * 10) + (σ 58 j x4.toNat)).toNat)) 4)) * (σ 60 j ((σ 58 j x4.toNat).toNat))) ∧ (x2 + (((σ 59 j x4.toNat) - (shr (σ 23 j (((x2 * 10) + (σ 58 j x4.toNat)).toNat)) 4)) * (σ 60 j ((σ 58 j x4.toNat).toNat)))) < 1024) ∧ ((0 ≤ x2 ∧ x2 < 1024) ∧ ((in32 ((σ 38 i x2.toNat) - 1)) ∧ ((((σ 38 i ((x2 + (((σ 59 j x4.toNat) - (shr (σ 23 j (((x2 * 10) + (σ 58 j x4.toNat)).toNat)) 4)) * (σ 60 j ((σ 58 j x4.toNat).toNat)))).toNat)) ≠ ((σ 38 i x2.toNat) - 1)) → (WP mX5_leastNext 55 [vR 6 i, vR 2 j, vI x2, vI x3, vI x4, vI (x2 + (((σ 59 j x4.toNat) - (shr (σ 23 j (((x2 * 10) + (σ 58 j x4.toNat)).toNat)) 4)) * (σ 60 j ((σ 58 j x4.toNat).toNat)))), vU] [] σ Q)) ∧ (((σ 38 i ((x2 + (((σ 59 j x4.toNat) - (shr (σ 23 j (((x2 * 10) + (σ 58 j x4.toNat)).toNat)) 4)) * (σ 60 j ((σ 58 j x4.toNat).toNat)))).toNat)) = ((σ 38 i x2.toNat) - 1)) → (WP mX5_leastNext 56 [vR 6 i, vR 2 j, vI x2, vI x3, vI x4, vI (x2 + (((σ 59 j x4.toNat) - (shr (σ 23 j (((x2 * 10) + (σ 58 j x4.toNat)).toNat)) 4)) * (σ 60 j ((σ 58 j x4.toNat).toNat)))), vU] [vI 1] σ Q))))))))))) : WP mX5_leastNext 6 [vR 6 i, vR 2 j, vI x2, vI x3, vI x4, vU, vU] [] σ Q := by
  refine wp_iload dX5_leastNext_6 rfl ?_
  refine wp_aload_n dX5_leastNext_8 rfl rfl ?_
  refine wp_getR dX5_leastNext_9 fl_CustomValley_Search_21 rfl rfl ?_
  refine wp_getI dX5_leastNext_12 fl_CustomValley_Search_83 rfl rfl rfl ?_
  refine wp_icmp_ge (tgt := 106) dX5_leastNext_15 (by decide) (fun hc => ?_) (fun hc => ?_)
  · replace h := h.1 hc
    refine wp_iload_n dX5_leastNext_106 rfl rfl ?_
    refine wp_ldc (n := 1000000) dX5_leastNext_107 ck_CustomValley_Search_33 rfl ?_
    refine wp_icmp_ne (tgt := 116) dX5_leastNext_109 (by decide) (fun hc => ?_) (fun hc => ?_)
    · replace h := h.1 hc
      refine wp_iload_n dX5_leastNext_116 rfl rfl ?_
      exact wp_iret dX5_leastNext_117 rfl h
    · replace h := h.2 hc
      refine wp_iload_n dX5_leastNext_112 rfl rfl ?_
      refine wp_goto (tgt := 117) dX5_leastNext_113 (by decide) ?_
      exact wp_iret dX5_leastNext_117 rfl h
  · replace h := h.2 hc
    refine wp_aload_n dX5_leastNext_18 rfl rfl ?_
    refine wp_iload_n dX5_leastNext_19 rfl rfl ?_
    refine wp_iload dX5_leastNext_20 rfl ?_
    have s4 := h.1
    replace h := h.2
    refine wp_invV (N := mX1_beside) [vI x2, vI x4] dX5_leastNext_22 ml_CustomValley_Search_86 mvX1_beside rfl rfl rfl rfl rfl (Nat.le_of_ble_eq_true rfl) (Nat.le_of_ble_eq_true rfl) (by decide) (by decide) (by decide) ?_
    refine pb_X1_beside s4 ?_
    show WP mX5_leastNext 25 [vR 6 i, vR 2 j, vI x2, vI x3, vI x4, vU, vU] [vI (x2 + (((σ 59 j x4.toNat) - (shr (σ 23 j (((x2 * 10) + (σ 58 j x4.toNat)).toNat)) 4)) * (σ 60 j ((σ 58 j x4.toNat).toNat))))] σ Q
    refine wp_istore dX5_leastNext_25 (by decide) rfl rfl ?_
    refine wp_iload dX5_leastNext_27 rfl ?_
    refine wp_iload_n dX5_leastNext_29 rfl rfl ?_
    refine wp_icmp_ge (tgt := 55) dX5_leastNext_30 (by decide) (fun hc => ?_) (fun hc => ?_)
    · replace h := h.1 hc
      exact h
    · replace h := h.2 hc
      refine wp_aload_n dX5_leastNext_33 rfl rfl ?_
      refine wp_getR dX5_leastNext_34 fl_CustomValley_Search_15 rfl rfl ?_
      refine wp_iload dX5_leastNext_37 rfl ?_
      have s3 := h.1
      replace h := h.2
      refine wp_iaload dX5_leastNext_39 rfl rfl s3.1 s3.2 ?_
      refine wp_aload_n dX5_leastNext_40 rfl rfl ?_
      refine wp_getR dX5_leastNext_41 fl_CustomValley_Search_15 rfl rfl ?_
      refine wp_iload_n dX5_leastNext_44 rfl rfl ?_
      have s2 := h.1
      replace h := h.2
      refine wp_iaload dX5_leastNext_45 rfl rfl s2.1 s2.2 ?_
      refine wp_iconst dX5_leastNext_46 rfl ?_
      have s1 := h.1
      replace h := h.2
      refine wp_isub dX5_leastNext_47 ?_ (h1 := s1.1) (h2 := s1.2)
      refine wp_icmp_ne (tgt := 55) dX5_leastNext_48 (by decide) (fun hc => ?_) (fun hc => ?_)
      · replace h := h.1 hc
        exact h
      · replace h := h.2 hc
        refine wp_iconst dX5_leastNext_51 rfl ?_
        refine wp_goto (tgt := 56) dX5_leastNext_52 (by decide) ?_
        exact h
theorem b_X5_leastNext_55 {i : Nat} {j : Nat} {x2 : Int} {x3 : Int} {x4 : Int} {x5 : Int} {σ : St} {Q : Res → St → Prop} (h : WP mX5_leastNext 56 [vR 6 i, vR 2 j, vI x2, vI x3, vI x4, vI x5, vU] [vI 0] σ Q) : WP mX5_leastNext 55 [vR 6 i, vR 2 j, vI x2, vI x3, vI x4, vI x5, vU] [] σ Q := by
  refine wp_iconst dX5_leastNext_55 rfl ?_
  exact h
theorem b_X5_leastNext_56 {i : Nat} {j : Nat} {x2 : Int} {x3 : Int} {x4 : Int} {x5 : Int} {t0 : Int} {σ : St} {Q : Res → St → Prop} (h : ((t0 = 0) → ((in32 (x4 + 1)) ∧ (WP mX5_leastNext 6 [vR 6 i, vR 2 j, vI x2, vI x3, vI (x4 + 1), vU, vU] [] σ Q))) ∧ ((t0 ≠ 0) → ((0 ≤ x2 ∧ x2 < 1024) ∧ ((0 ≤ x5 ∧ x5 < 1024) ∧ ((0 ≤ x4 ∧ x4 < 40) ∧ ((0 ≤ x2 ∧ x2 < 1024 ∧ 0 ≤ x5 ∧ x5 < 1024 ∧ 0 ≤ (σ 58 j x4.toNat) ∧ (σ 58 j x4.toNat) < 10 ∧ 0 ≤ ownr σ j x5 (σ 58 j x4.toNat) ∧ ownr σ j x5 (σ 58 j x4.toNat) < 4) ∧ ((in32 ((σ 37 i x5.toNat) + (prc σ j x2 x5 (σ 58 j x4.toNat)))) ∧ ((((σ 37 i x2.toNat) ≠ ((σ 37 i x5.toNat) + (prc σ j x2 x5 (σ 58 j x4.toNat)))) → ((in32 (x4 + 1)) ∧ (WP mX5_leastNext 6 [vR 6 i, vR 2 j, vI x2, vI x3, vI (x4 + 1), vU, vU] [] σ Q))) ∧ (((σ 37 i x2.toNat) = ((σ 37 i x5.toNat) + (prc σ j x2 x5 (σ 58 j x4.toNat)))) → ((in32 (x4 + 1)) ∧ (WP mX5_leastNext 6 [vR 6 i, vR 2 j, vI x2, vI x5, vI (x4 + 1), vU, vU] [] σ Q))))))))))) : WP mX5_leastNext 56 [vR 6 i, vR 2 j, vI x2, vI x3, vI x4, vI x5, vU] [vI t0] σ Q := by
  refine wp_istore dX5_leastNext_56 (by decide) rfl rfl ?_
  refine wp_iload dX5_leastNext_58 rfl ?_
  refine wp_if_eq (tgt := 100) dX5_leastNext_60 (by decide) (fun hc => ?_) (fun hc => ?_)
  · replace h := h.1 hc
    have s1 := h.1
    replace h := h.2
    refine wp_iinc dX5_leastNext_100 rfl (by decide) rfl rfl ?_ (h1 := s1.1) (h2 := s1.2)
    refine wp_goto (tgt := 6) dX5_leastNext_103 (by decide) ?_
    exact wp_drop (als' := [vR 6 i, vR 2 j, vI x2, vI x3, vI (x4 + 1), vU, vU]) (lle_c (Or.inl rfl) (lle_c (Or.inl rfl) (lle_c (Or.inl rfl) (lle_c (Or.inl rfl) (lle_c (Or.inl rfl) (lle_c (Or.inr rfl) (lle_c (Or.inr rfl) lle_n))))))) h
  · replace h := h.2 hc
    refine wp_aload_n dX5_leastNext_63 rfl rfl ?_
    refine wp_getR dX5_leastNext_64 fl_CustomValley_Search_9 rfl rfl ?_
    refine wp_iload_n dX5_leastNext_67 rfl rfl ?_
    have s8 := h.1
    replace h := h.2
    refine wp_iaload dX5_leastNext_68 rfl rfl s8.1 s8.2 ?_
    refine wp_aload_n dX5_leastNext_69 rfl rfl ?_
    refine wp_getR dX5_leastNext_70 fl_CustomValley_Search_9 rfl rfl ?_
    refine wp_iload dX5_leastNext_73 rfl ?_
    have s7 := h.1
    replace h := h.2
    refine wp_iaload dX5_leastNext_75 rfl rfl s7.1 s7.2 ?_
    refine wp_aload_n dX5_leastNext_76 rfl rfl ?_
    refine wp_iload_n dX5_leastNext_77 rfl rfl ?_
    refine wp_iload dX5_leastNext_78 rfl ?_
    refine wp_aload_n dX5_leastNext_80 rfl rfl ?_
    refine wp_getR dX5_leastNext_81 fl_CustomValley_Search_21 rfl rfl ?_
    refine wp_getR dX5_leastNext_84 fl_CustomValley_Search_90 rfl rfl ?_
    refine wp_iload dX5_leastNext_87 rfl ?_
    have s6 := h.1
    replace h := h.2
    refine wp_iaload dX5_leastNext_89 rfl rfl s6.1 s6.2 ?_
    have s5 := h.1
    replace h := h.2
    refine wp_invV (N := mX1_price) [vI x2, vI x5, vI (σ 58 j x4.toNat)] dX5_leastNext_90 ml_CustomValley_Search_93 mvX1_price rfl rfl rfl rfl rfl (Nat.le_of_ble_eq_true rfl) (Nat.le_of_ble_eq_true rfl) (by decide) (by decide) (by decide) ?_
    refine pb_X1_price s5 ?_
    show WP mX5_leastNext 93 [vR 6 i, vR 2 j, vI x2, vI x3, vI x4, vI x5, vI t0] [vI (prc σ j x2 x5 (σ 58 j x4.toNat)), vI (σ 37 i x5.toNat), vI (σ 37 i x2.toNat)] σ Q
    have s4 := h.1
    replace h := h.2
    refine wp_iadd dX5_leastNext_93 ?_ (h1 := s4.1) (h2 := s4.2)
    refine wp_icmp_ne (tgt := 100) dX5_leastNext_94 (by decide) (fun hc => ?_) (fun hc => ?_)
    · replace h := h.1 hc
      have s2 := h.1
      replace h := h.2
      refine wp_iinc dX5_leastNext_100 rfl (by decide) rfl rfl ?_ (h1 := s2.1) (h2 := s2.2)
      refine wp_goto (tgt := 6) dX5_leastNext_103 (by decide) ?_
      exact wp_drop (als' := [vR 6 i, vR 2 j, vI x2, vI x3, vI (x4 + 1), vU, vU]) (lle_c (Or.inl rfl) (lle_c (Or.inl rfl) (lle_c (Or.inl rfl) (lle_c (Or.inl rfl) (lle_c (Or.inl rfl) (lle_c (Or.inr rfl) (lle_c (Or.inr rfl) lle_n))))))) h
    · replace h := h.2 hc
      refine wp_iload dX5_leastNext_97 rfl ?_
      refine wp_istore_n dX5_leastNext_99 rfl (by decide) rfl rfl ?_
      have s3 := h.1
      replace h := h.2
      refine wp_iinc dX5_leastNext_100 rfl (by decide) rfl rfl ?_ (h1 := s3.1) (h2 := s3.2)
      refine wp_goto (tgt := 6) dX5_leastNext_103 (by decide) ?_
      exact wp_drop (als' := [vR 6 i, vR 2 j, vI x2, vI x5, vI (x4 + 1), vU, vU]) (lle_c (Or.inl rfl) (lle_c (Or.inl rfl) (lle_c (Or.inl rfl) (lle_c (Or.inl rfl) (lle_c (Or.inl rfl) (lle_c (Or.inr rfl) (lle_c (Or.inr rfl) lle_n))))))) h
theorem dX5_reachBack_0 : decode cX5_reachBack 0 = .ok (.iconst 0, 1) := by decide +kernel
theorem dX5_reachBack_1 : decode cX5_reachBack 1 = .ok (.istore_n 3, 1) := by decide +kernel
theorem dX5_reachBack_2 : decode cX5_reachBack 2 = .ok (.iload_n 3, 1) := by decide +kernel
theorem dX5_reachBack_3 : decode cX5_reachBack 3 = .ok (.aload_n 1, 1) := by decide +kernel
theorem dX5_reachBack_4 : decode cX5_reachBack 4 = .ok (.getfield 21, 3) := by decide +kernel
theorem dX5_reachBack_7 : decode cX5_reachBack 7 = .ok (.getfield 83, 3) := by decide +kernel
theorem dX5_reachBack_10 : decode cX5_reachBack 10 = .ok (.if_icmp .ge 120, 3) := by decide +kernel
theorem dX5_reachBack_13 : decode cX5_reachBack 13 = .ok (.aload_n 1, 1) := by decide +kernel
theorem dX5_reachBack_14 : decode cX5_reachBack 14 = .ok (.iload_n 2, 1) := by decide +kernel
theorem dX5_reachBack_15 : decode cX5_reachBack 15 = .ok (.iload_n 3, 1) := by decide +kernel
theorem dX5_reachBack_16 : decode cX5_reachBack 16 = .ok (.invokevirtual 86, 3) := by decide +kernel
theorem dX5_reachBack_19 : decode cX5_reachBack 19 = .ok (.istore 4, 2) := by decide +kernel
theorem dX5_reachBack_21 : decode cX5_reachBack 21 = .ok (.aload_n 0, 1) := by decide +kernel
theorem dX5_reachBack_22 : decode cX5_reachBack 22 = .ok (.getfield 15, 3) := by decide +kernel
theorem dX5_reachBack_25 : decode cX5_reachBack 25 = .ok (.iload 4, 2) := by decide +kernel
theorem dX5_reachBack_27 : decode cX5_reachBack 27 = .ok (.iaload, 1) := by decide +kernel
theorem dX5_reachBack_28 : decode cX5_reachBack 28 = .ok (.ldc 33, 2) := by decide +kernel
theorem dX5_reachBack_30 : decode cX5_reachBack 30 = .ok (.if_icmp .ne 17, 3) := by decide +kernel
theorem dX5_reachBack_33 : decode cX5_reachBack 33 = .ok (.aload_n 0, 1) := by decide +kernel
theorem dX5_reachBack_34 : decode cX5_reachBack 34 = .ok (.getfield 61, 3) := by decide +kernel
theorem dX5_reachBack_37 : decode cX5_reachBack 37 = .ok (.sipush 1024, 3) := by decide +kernel
theorem dX5_reachBack_40 : decode cX5_reachBack 40 = .ok (.if_icmp .ge 7, 3) := by decide +kernel
theorem dX5_reachBack_43 : decode cX5_reachBack 43 = .ok (.iconst 1, 1) := by decide +kernel
theorem dX5_reachBack_44 : decode cX5_reachBack 44 = .ok (.goto 4, 3) := by decide +kernel
theorem dX5_reachBack_47 : decode cX5_reachBack 47 = .ok (.iconst 0, 1) := by decide +kernel
theorem dX5_reachBack_48 : decode cX5_reachBack 48 = .ok (.istore 5, 2) := by decide +kernel
theorem dX5_reachBack_50 : decode cX5_reachBack 50 = .ok (.iload 5, 2) := by decide +kernel
theorem dX5_reachBack_52 : decode cX5_reachBack 52 = .ok (.ifCond .eq 72, 3) := by decide +kernel
theorem dX5_reachBack_55 : decode cX5_reachBack 55 = .ok (.aload_n 0, 1) := by decide +kernel
theorem dX5_reachBack_56 : decode cX5_reachBack 56 = .ok (.getfield 9, 3) := by decide +kernel
theorem dX5_reachBack_59 : decode cX5_reachBack 59 = .ok (.iload 4, 2) := by decide +kernel
theorem dX5_reachBack_61 : decode cX5_reachBack 61 = .ok (.iaload, 1) := by decide +kernel
theorem dX5_reachBack_62 : decode cX5_reachBack 62 = .ok (.aload_n 0, 1) := by decide +kernel
theorem dX5_reachBack_63 : decode cX5_reachBack 63 = .ok (.getfield 9, 3) := by decide +kernel
theorem dX5_reachBack_66 : decode cX5_reachBack 66 = .ok (.iload_n 2, 1) := by decide +kernel
theorem dX5_reachBack_67 : decode cX5_reachBack 67 = .ok (.iaload, 1) := by decide +kernel
theorem dX5_reachBack_68 : decode cX5_reachBack 68 = .ok (.aload_n 1, 1) := by decide +kernel
theorem dX5_reachBack_69 : decode cX5_reachBack 69 = .ok (.iload 4, 2) := by decide +kernel
theorem dX5_reachBack_71 : decode cX5_reachBack 71 = .ok (.iload_n 2, 1) := by decide +kernel
theorem dX5_reachBack_72 : decode cX5_reachBack 72 = .ok (.aload_n 1, 1) := by decide +kernel
theorem dX5_reachBack_73 : decode cX5_reachBack 73 = .ok (.getfield 21, 3) := by decide +kernel
theorem dX5_reachBack_76 : decode cX5_reachBack 76 = .ok (.getfield 90, 3) := by decide +kernel
theorem dX5_reachBack_79 : decode cX5_reachBack 79 = .ok (.iload_n 3, 1) := by decide +kernel
theorem dX5_reachBack_80 : decode cX5_reachBack 80 = .ok (.iaload, 1) := by decide +kernel
theorem dX5_reachBack_81 : decode cX5_reachBack 81 = .ok (.invokevirtual 93, 3) := by decide +kernel
theorem dX5_reachBack_84 : decode cX5_reachBack 84 = .ok (.iadd, 1) := by decide +kernel
theorem dX5_reachBack_85 : decode cX5_reachBack 85 = .ok (.if_icmp .ne 39, 3) := by decide +kernel
theorem dX5_reachBack_88 : decode cX5_reachBack 88 = .ok (.aload_n 0, 1) := by decide +kernel
theorem dX5_reachBack_89 : decode cX5_reachBack 89 = .ok (.getfield 15, 3) := by decide +kernel
theorem dX5_reachBack_92 : decode cX5_reachBack 92 = .ok (.iload 4, 2) := by decide +kernel
theorem dX5_reachBack_94 : decode cX5_reachBack 94 = .ok (.aload_n 0, 1) := by decide +kernel
theorem dX5_reachBack_95 : decode cX5_reachBack 95 = .ok (.getfield 15, 3) := by decide +kernel
theorem dX5_reachBack_98 : decode cX5_reachBack 98 = .ok (.iload_n 2, 1) := by decide +kernel
theorem dX5_reachBack_99 : decode cX5_reachBack 99 = .ok (.iaload, 1) := by decide +kernel
theorem dX5_reachBack_100 : decode cX5_reachBack 100 = .ok (.iconst 1, 1) := by decide +kernel
theorem dX5_reachBack_101 : decode cX5_reachBack 101 = .ok (.iadd, 1) := by decide +kernel
theorem dX5_reachBack_102 : decode cX5_reachBack 102 = .ok (.iastore, 1) := by decide +kernel
theorem dX5_reachBack_103 : decode cX5_reachBack 103 = .ok (.aload_n 0, 1) := by decide +kernel
theorem dX5_reachBack_104 : decode cX5_reachBack 104 = .ok (.getfield 18, 3) := by decide +kernel
theorem dX5_reachBack_107 : decode cX5_reachBack 107 = .ok (.aload_n 0, 1) := by decide +kernel
theorem dX5_reachBack_108 : decode cX5_reachBack 108 = .ok (.getfield 61, 3) := by decide +kernel
theorem dX5_reachBack_111 : decode cX5_reachBack 111 = .ok (.iload 4, 2) := by decide +kernel
theorem dX5_reachBack_113 : decode cX5_reachBack 113 = .ok (.iastore, 1) := by decide +kernel
theorem dX5_reachBack_114 : decode cX5_reachBack 114 = .ok (.aload_n 0, 1) := by decide +kernel
theorem dX5_reachBack_115 : decode cX5_reachBack 115 = .ok (.dup, 1) := by decide +kernel
theorem dX5_reachBack_116 : decode cX5_reachBack 116 = .ok (.getfield 61, 3) := by decide +kernel
theorem dX5_reachBack_119 : decode cX5_reachBack 119 = .ok (.iconst 1, 1) := by decide +kernel
theorem dX5_reachBack_120 : decode cX5_reachBack 120 = .ok (.iadd, 1) := by decide +kernel
theorem dX5_reachBack_121 : decode cX5_reachBack 121 = .ok (.putfield 61, 3) := by decide +kernel
theorem dX5_reachBack_124 : decode cX5_reachBack 124 = .ok (.iinc 3 1, 3) := by decide +kernel
theorem dX5_reachBack_127 : decode cX5_reachBack 127 = .ok (.goto (-125), 3) := by decide +kernel
theorem dX5_reachBack_130 : decode cX5_reachBack 130 = .ok (.return_, 1) := by decide +kernel
theorem b_X5_reachBack_0 {i : Nat} {j : Nat} {x2 : Int} {σ : St} {Q : Res → St → Prop} (h : WP mX5_reachBack 2 [vR 6 i, vR 2 j, vI x2, vI 0, vU, vU] [] σ Q) : WP mX5_reachBack 0 [vR 6 i, vR 2 j, vI x2, vU, vU, vU] [] σ Q := by
  refine wp_iconst dX5_reachBack_0 rfl ?_
  refine wp_istore_n dX5_reachBack_1 rfl (by decide) rfl rfl ?_
  exact h
theorem b_X5_reachBack_2 {i : Nat} {j : Nat} {x2 : Int} {x3 : Int} {σ : St} {Q : Res → St → Prop} (h : (((σ 10 j 13) ≤ x3) → (Q (.inl none) σ)) ∧ ((x3 < (σ 10 j 13)) → ((0 ≤ x3 ∧ x3 < 40 ∧ in32 (x2 * 10) ∧ in32 ((x2 * 10) + (σ 58 j x3.toNat)) ∧ 0 ≤ (x2 * 10) + (σ 58 j x3.toNat) ∧ ((x2 * 10) + (σ 58 j x3.toNat)) < 10240 ∧ 0 ≤ x3 ∧ x3 < 40 ∧ in32 ((σ 59 j x3.toNat) - (shr (σ 23 j (((x2 * 10) + (σ 58 j x3.toNat)).toNat)) 4)) ∧ 0 ≤ σ 58 j x3.toNat ∧ (σ 58 j x3.toNat) < 11 ∧ in32 (((σ 59 j x3.toNat) - (shr (σ 23 j (((x2 * 10) + (σ 58 j x3.toNat)).toNat)) 4)) * (σ 60 j ((σ 58 j x3.toNat).toNat))) ∧ in32 (x2 + (((σ 59 j x3.toNat) - (shr (σ 23 j (((x2 * 10) + (σ 58 j x3.toNat)).toNat)) 4)) * (σ 60 j ((σ 58 j x3.toNat).toNat))))) ∧ ((0 ≤ x2 + (((σ 59 j x3.toNat) - (shr (σ 23 j (((x2 * 10) + (σ 58 j x3.toNat)).toNat)) 4)) * (σ 60 j ((σ 58 j x3.toNat).toNat))) ∧ (x2 + (((σ 59 j x3.toNat) - (shr (σ 23 j (((x2 * 10) + (σ 58 j x3.toNat)).toNat)) 4)) * (σ 60 j ((σ 58 j x3.toNat).toNat)))) < 1024) ∧ ((((σ 38 i ((x2 + (((σ 59 j x3.toNat) - (shr (σ 23 j (((x2 * 10) + (σ 58 j x3.toNat)).toNat)) 4)) * (σ 60 j ((σ 58 j x3.toNat).toNat)))).toNat)) ≠ 1000000) → (WP mX5_reachBack 47 [vR 6 i, vR 2 j, vI x2, vI x3, vI (x2 + (((σ 59 j x3.toNat) - (shr (σ 23 j (((x2 * 10) + (σ 58 j x3.toNat)).toNat)) 4)) * (σ 60 j ((σ 58 j x3.toNat).toNat)))), vU] [] σ Q)) ∧ (((σ 38 i ((x2 + (((σ 59 j x3.toNat) - (shr (σ 23 j (((x2 * 10) + (σ 58 j x3.toNat)).toNat)) 4)) * (σ 60 j ((σ 58 j x3.toNat).toNat)))).toNat)) = 1000000) → (((1024 ≤ (σ 6 i 3)) → (WP mX5_reachBack 47 [vR 6 i, vR 2 j, vI x2, vI x3, vI (x2 + (((σ 59 j x3.toNat) - (shr (σ 23 j (((x2 * 10) + (σ 58 j x3.toNat)).toNat)) 4)) * (σ 60 j ((σ 58 j x3.toNat).toNat)))), vU] [] σ Q)) ∧ (((σ 6 i 3) < 1024) → (WP mX5_reachBack 48 [vR 6 i, vR 2 j, vI x2, vI x3, vI (x2 + (((σ 59 j x3.toNat) - (shr (σ 23 j (((x2 * 10) + (σ 58 j x3.toNat)).toNat)) 4)) * (σ 60 j ((σ 58 j x3.toNat).toNat)))), vU] [vI 1] σ Q))))))))) : WP mX5_reachBack 2 [vR 6 i, vR 2 j, vI x2, vI x3, vU, vU] [] σ Q := by
  refine wp_iload_n dX5_reachBack_2 rfl rfl ?_
  refine wp_aload_n dX5_reachBack_3 rfl rfl ?_
  refine wp_getR dX5_reachBack_4 fl_CustomValley_Search_21 rfl rfl ?_
  refine wp_getI dX5_reachBack_7 fl_CustomValley_Search_83 rfl rfl rfl ?_
  refine wp_icmp_ge (tgt := 130) dX5_reachBack_10 (by decide) (fun hc => ?_) (fun hc => ?_)
  · replace h := h.1 hc
    exact wp_ret dX5_reachBack_130 rfl h
  · replace h := h.2 hc
    refine wp_aload_n dX5_reachBack_13 rfl rfl ?_
    refine wp_iload_n dX5_reachBack_14 rfl rfl ?_
    refine wp_iload_n dX5_reachBack_15 rfl rfl ?_
    have s2 := h.1
    replace h := h.2
    refine wp_invV (N := mX1_beside) [vI x2, vI x3] dX5_reachBack_16 ml_CustomValley_Search_86 mvX1_beside rfl rfl rfl rfl rfl (Nat.le_of_ble_eq_true rfl) (Nat.le_of_ble_eq_true rfl) (by decide) (by decide) (by decide) ?_
    refine pb_X1_beside s2 ?_
    show WP mX5_reachBack 19 [vR 6 i, vR 2 j, vI x2, vI x3, vU, vU] [vI (x2 + (((σ 59 j x3.toNat) - (shr (σ 23 j (((x2 * 10) + (σ 58 j x3.toNat)).toNat)) 4)) * (σ 60 j ((σ 58 j x3.toNat).toNat))))] σ Q
    refine wp_istore dX5_reachBack_19 (by decide) rfl rfl ?_
    refine wp_aload_n dX5_reachBack_21 rfl rfl ?_
    refine wp_getR dX5_reachBack_22 fl_CustomValley_Search_15 rfl rfl ?_
    refine wp_iload dX5_reachBack_25 rfl ?_
    have s1 := h.1
    replace h := h.2
    refine wp_iaload dX5_reachBack_27 rfl rfl s1.1 s1.2 ?_
    refine wp_ldc (n := 1000000) dX5_reachBack_28 ck_CustomValley_Search_33 rfl ?_
    refine wp_icmp_ne (tgt := 47) dX5_reachBack_30 (by decide) (fun hc => ?_) (fun hc => ?_)
    · replace h := h.1 hc
      exact h
    · replace h := h.2 hc
      refine wp_aload_n dX5_reachBack_33 rfl rfl ?_
      refine wp_getI dX5_reachBack_34 fl_CustomValley_Search_61 rfl rfl rfl ?_
      refine wp_sipush dX5_reachBack_37 rfl ?_
      refine wp_icmp_ge (tgt := 47) dX5_reachBack_40 (by decide) (fun hc => ?_) (fun hc => ?_)
      · replace h := h.1 hc
        exact h
      · replace h := h.2 hc
        refine wp_iconst dX5_reachBack_43 rfl ?_
        refine wp_goto (tgt := 48) dX5_reachBack_44 (by decide) ?_
        exact h
theorem b_X5_reachBack_47 {i : Nat} {j : Nat} {x2 : Int} {x3 : Int} {x4 : Int} {σ : St} {Q : Res → St → Prop} (h : WP mX5_reachBack 48 [vR 6 i, vR 2 j, vI x2, vI x3, vI x4, vU] [vI 0] σ Q) : WP mX5_reachBack 47 [vR 6 i, vR 2 j, vI x2, vI x3, vI x4, vU] [] σ Q := by
  refine wp_iconst dX5_reachBack_47 rfl ?_
  exact h
theorem b_X5_reachBack_48 {i : Nat} {j : Nat} {x2 : Int} {x3 : Int} {x4 : Int} {t0 : Int} {σ : St} {Q : Res → St → Prop} (h : ((t0 = 0) → ((in32 (x3 + 1)) ∧ (WP mX5_reachBack 2 [vR 6 i, vR 2 j, vI x2, vI (x3 + 1), vU, vU] [] σ Q))) ∧ ((t0 ≠ 0) → ((0 ≤ x4 ∧ x4 < 1024) ∧ ((0 ≤ x2 ∧ x2 < 1024) ∧ ((0 ≤ x3 ∧ x3 < 40) ∧ ((0 ≤ x4 ∧ x4 < 1024 ∧ 0 ≤ x2 ∧ x2 < 1024 ∧ 0 ≤ (σ 58 j x3.toNat) ∧ (σ 58 j x3.toNat) < 10 ∧ 0 ≤ ownr σ j x2 (σ 58 j x3.toNat) ∧ ownr σ j x2 (σ 58 j x3.toNat) < 4) ∧ ((in32 ((σ 37 i x2.toNat) + (prc σ j x4 x2 (σ 58 j x3.toNat)))) ∧ ((((σ 37 i x4.toNat) ≠ ((σ 37 i x2.toNat) + (prc σ j x4 x2 (σ 58 j x3.toNat)))) → ((in32 (x3 + 1)) ∧ (WP mX5_reachBack 2 [vR 6 i, vR 2 j, vI x2, vI (x3 + 1), vU, vU] [] σ Q))) ∧ (((σ 37 i x4.toNat) = ((σ 37 i x2.toNat) + (prc σ j x4 x2 (σ 58 j x3.toNat)))) → ((0 ≤ x2 ∧ x2 < 1024) ∧ ((in32 ((σ 38 i x2.toNat) + 1)) ∧ ((0 ≤ x4 ∧ x4 < 1024) ∧ ((0 ≤ σ 6 i 3 ∧ (σ 6 i 3) < 1024) ∧ ((in32 ((σ 6 i 3) + 1)) ∧ ((in32 (x3 + 1)) ∧ (WP mX5_reachBack 2 [vR 6 i, vR 2 j, vI x2, vI (x3 + 1), vU, vU] [] (up (up (up σ 38 i x4.toNat ((σ 38 i x2.toNat) + 1)) 39 i ((σ 6 i 3).toNat) x4) 6 i 3 ((σ 6 i 3) + 1)) Q)))))))))))))))) : WP mX5_reachBack 48 [vR 6 i, vR 2 j, vI x2, vI x3, vI x4, vU] [vI t0] σ Q := by
  refine wp_istore dX5_reachBack_48 (by decide) rfl rfl ?_
  refine wp_iload dX5_reachBack_50 rfl ?_
  refine wp_if_eq (tgt := 124) dX5_reachBack_52 (by decide) (fun hc => ?_) (fun hc => ?_)
  · replace h := h.1 hc
    have s1 := h.1
    replace h := h.2
    refine wp_iinc dX5_reachBack_124 rfl (by decide) rfl rfl ?_ (h1 := s1.1) (h2 := s1.2)
    refine wp_goto (tgt := 2) dX5_reachBack_127 (by decide) ?_
    exact wp_drop (als' := [vR 6 i, vR 2 j, vI x2, vI (x3 + 1), vU, vU]) (lle_c (Or.inl rfl) (lle_c (Or.inl rfl) (lle_c (Or.inl rfl) (lle_c (Or.inl rfl) (lle_c (Or.inr rfl) (lle_c (Or.inr rfl) lle_n)))))) h
  · replace h := h.2 hc
    refine wp_aload_n dX5_reachBack_55 rfl rfl ?_
    refine wp_getR dX5_reachBack_56 fl_CustomValley_Search_9 rfl rfl ?_
    refine wp_iload dX5_reachBack_59 rfl ?_
    have s13 := h.1
    replace h := h.2
    refine wp_iaload dX5_reachBack_61 rfl rfl s13.1 s13.2 ?_
    refine wp_aload_n dX5_reachBack_62 rfl rfl ?_
    refine wp_getR dX5_reachBack_63 fl_CustomValley_Search_9 rfl rfl ?_
    refine wp_iload_n dX5_reachBack_66 rfl rfl ?_
    have s12 := h.1
    replace h := h.2
    refine wp_iaload dX5_reachBack_67 rfl rfl s12.1 s12.2 ?_
    refine wp_aload_n dX5_reachBack_68 rfl rfl ?_
    refine wp_iload dX5_reachBack_69 rfl ?_
    refine wp_iload_n dX5_reachBack_71 rfl rfl ?_
    refine wp_aload_n dX5_reachBack_72 rfl rfl ?_
    refine wp_getR dX5_reachBack_73 fl_CustomValley_Search_21 rfl rfl ?_
    refine wp_getR dX5_reachBack_76 fl_CustomValley_Search_90 rfl rfl ?_
    refine wp_iload_n dX5_reachBack_79 rfl rfl ?_
    have s11 := h.1
    replace h := h.2
    refine wp_iaload dX5_reachBack_80 rfl rfl s11.1 s11.2 ?_
    have s10 := h.1
    replace h := h.2
    refine wp_invV (N := mX1_price) [vI x4, vI x2, vI (σ 58 j x3.toNat)] dX5_reachBack_81 ml_CustomValley_Search_93 mvX1_price rfl rfl rfl rfl rfl (Nat.le_of_ble_eq_true rfl) (Nat.le_of_ble_eq_true rfl) (by decide) (by decide) (by decide) ?_
    refine pb_X1_price s10 ?_
    show WP mX5_reachBack 84 [vR 6 i, vR 2 j, vI x2, vI x3, vI x4, vI t0] [vI (prc σ j x4 x2 (σ 58 j x3.toNat)), vI (σ 37 i x2.toNat), vI (σ 37 i x4.toNat)] σ Q
    have s9 := h.1
    replace h := h.2
    refine wp_iadd dX5_reachBack_84 ?_ (h1 := s9.1) (h2 := s9.2)
    refine wp_icmp_ne (tgt := 124) dX5_reachBack_85 (by decide) (fun hc => ?_) (fun hc => ?_)
    · replace h := h.1 hc
      have s2 := h.1
      replace h := h.2
      refine wp_iinc dX5_reachBack_124 rfl (by decide) rfl rfl ?_ (h1 := s2.1) (h2 := s2.2)
      refine wp_goto (tgt := 2) dX5_reachBack_127 (by decide) ?_
      exact wp_drop (als' := [vR 6 i, vR 2 j, vI x2, vI (x3 + 1), vU, vU]) (lle_c (Or.inl rfl) (lle_c (Or.inl rfl) (lle_c (Or.inl rfl) (lle_c (Or.inl rfl) (lle_c (Or.inr rfl) (lle_c (Or.inr rfl) lle_n)))))) h
    · replace h := h.2 hc
      refine wp_aload_n dX5_reachBack_88 rfl rfl ?_
      refine wp_getR dX5_reachBack_89 fl_CustomValley_Search_15 rfl rfl ?_
      refine wp_iload dX5_reachBack_92 rfl ?_
      refine wp_aload_n dX5_reachBack_94 rfl rfl ?_
      refine wp_getR dX5_reachBack_95 fl_CustomValley_Search_15 rfl rfl ?_
      refine wp_iload_n dX5_reachBack_98 rfl rfl ?_
      have s8 := h.1
      replace h := h.2
      refine wp_iaload dX5_reachBack_99 rfl rfl s8.1 s8.2 ?_
      refine wp_iconst dX5_reachBack_100 rfl ?_
      have s7 := h.1
      replace h := h.2
      refine wp_iadd dX5_reachBack_101 ?_ (h1 := s7.1) (h2 := s7.2)
      have s6 := h.1
      replace h := h.2
      refine wp_iastore dX5_reachBack_102 rfl rfl s6.1 s6.2 ?_
      refine wp_aload_n dX5_reachBack_103 rfl rfl ?_
      refine wp_getR dX5_reachBack_104 fl_CustomValley_Search_18 rfl rfl ?_
      refine wp_aload_n dX5_reachBack_107 rfl rfl ?_
      refine wp_getI dX5_reachBack_108 fl_CustomValley_Search_61 rfl rfl rfl ?_
      rw [show (up σ 38 i x4.toNat ((σ 38 i x2.toNat) + 1)) 6 i 3 = σ 6 i 3 from by simp [up]]
      refine wp_iload dX5_reachBack_111 rfl ?_
      have s5 := h.1
      replace h := h.2
      refine wp_iastore dX5_reachBack_113 rfl rfl s5.1 s5.2 ?_
      refine wp_aload_n dX5_reachBack_114 rfl rfl ?_
      refine wp_dup dX5_reachBack_115 ?_
      refine wp_getI dX5_reachBack_116 fl_CustomValley_Search_61 rfl rfl rfl ?_
      rw [show (up (up σ 38 i x4.toNat ((σ 38 i x2.toNat) + 1)) 39 i ((σ 6 i 3).toNat) x4) 6 i 3 = σ 6 i 3 from by simp [up]]
      refine wp_iconst dX5_reachBack_119 rfl ?_
      have s4 := h.1
      replace h := h.2
      refine wp_iadd dX5_reachBack_120 ?_ (h1 := s4.1) (h2 := s4.2)
      refine wp_putI dX5_reachBack_121 fp_CustomValley_Search_61 rfl rfl rfl ?_
      have s3 := h.1
      replace h := h.2
      refine wp_iinc dX5_reachBack_124 rfl (by decide) rfl rfl ?_ (h1 := s3.1) (h2 := s3.2)
      refine wp_goto (tgt := 2) dX5_reachBack_127 (by decide) ?_
      exact wp_drop (als' := [vR 6 i, vR 2 j, vI x2, vI (x3 + 1), vU, vU]) (lle_c (Or.inl rfl) (lle_c (Or.inl rfl) (lle_c (Or.inl rfl) (lle_c (Or.inl rfl) (lle_c (Or.inr rfl) (lle_c (Or.inr rfl) lle_n)))))) h
theorem dX5_seed_0 : decode cX5_seed 0 = .ok (.aload_n 0, 1) := by decide +kernel
theorem dX5_seed_1 : decode cX5_seed 1 = .ok (.getfield 9, 3) := by decide +kernel
theorem dX5_seed_4 : decode cX5_seed 4 = .ok (.aload_n 1, 1) := by decide +kernel
theorem dX5_seed_5 : decode cX5_seed 5 = .ok (.getfield 21, 3) := by decide +kernel
theorem dX5_seed_8 : decode cX5_seed 8 = .ok (.getfield 27, 3) := by decide +kernel
theorem dX5_seed_11 : decode cX5_seed 11 = .ok (.ldc 33, 2) := by decide +kernel
theorem dX5_seed_13 : decode cX5_seed 13 = .ok (.invokestatic 34, 3) := by decide +kernel
theorem dX5_seed_16 : decode cX5_seed 16 = .ok (.aload_n 1, 1) := by decide +kernel
theorem dX5_seed_17 : decode cX5_seed 17 = .ok (.getfield 49, 3) := by decide +kernel
theorem dX5_seed_20 : decode cX5_seed 20 = .ok (.getfield 70, 3) := by decide +kernel
theorem dX5_seed_23 : decode cX5_seed 23 = .ok (.iload_n 2, 1) := by decide +kernel
theorem dX5_seed_24 : decode cX5_seed 24 = .ok (.iaload, 1) := by decide +kernel
theorem dX5_seed_25 : decode cX5_seed 25 = .ok (.istore_n 3, 1) := by decide +kernel
theorem dX5_seed_26 : decode cX5_seed 26 = .ok (.iload_n 3, 1) := by decide +kernel
theorem dX5_seed_27 : decode cX5_seed 27 = .ok (.aload_n 1, 1) := by decide +kernel
theorem dX5_seed_28 : decode cX5_seed 28 = .ok (.getfield 49, 3) := by decide +kernel
theorem dX5_seed_31 : decode cX5_seed 31 = .ok (.getfield 70, 3) := by decide +kernel
theorem dX5_seed_34 : decode cX5_seed 34 = .ok (.iload_n 2, 1) := by decide +kernel
theorem dX5_seed_35 : decode cX5_seed 35 = .ok (.iconst 1, 1) := by decide +kernel
theorem dX5_seed_36 : decode cX5_seed 36 = .ok (.iadd, 1) := by decide +kernel
theorem dX5_seed_37 : decode cX5_seed 37 = .ok (.iaload, 1) := by decide +kernel
theorem dX5_seed_38 : decode cX5_seed 38 = .ok (.if_icmp .ge 24, 3) := by decide +kernel
theorem dX5_seed_41 : decode cX5_seed 41 = .ok (.aload_n 0, 1) := by decide +kernel
theorem dX5_seed_42 : decode cX5_seed 42 = .ok (.getfield 9, 3) := by decide +kernel
theorem dX5_seed_45 : decode cX5_seed 45 = .ok (.aload_n 1, 1) := by decide +kernel
theorem dX5_seed_46 : decode cX5_seed 46 = .ok (.getfield 49, 3) := by decide +kernel
theorem dX5_seed_49 : decode cX5_seed 49 = .ok (.getfield 73, 3) := by decide +kernel
theorem dX5_seed_52 : decode cX5_seed 52 = .ok (.iload_n 3, 1) := by decide +kernel
theorem dX5_seed_53 : decode cX5_seed 53 = .ok (.iaload, 1) := by decide +kernel
theorem dX5_seed_54 : decode cX5_seed 54 = .ok (.iconst 0, 1) := by decide +kernel
theorem dX5_seed_55 : decode cX5_seed 55 = .ok (.iastore, 1) := by decide +kernel
theorem dX5_seed_56 : decode cX5_seed 56 = .ok (.iinc 3 1, 3) := by decide +kernel
theorem dX5_seed_59 : decode cX5_seed 59 = .ok (.goto (-33), 3) := by decide +kernel
theorem dX5_seed_62 : decode cX5_seed 62 = .ok (.return_, 1) := by decide +kernel
theorem b_X5_seed_0 {i : Nat} {j : Nat} {x2 : Int} {σ : St} {Q : Res → St → Prop} (h : WP mX11_fillTo 0 [vR 37 i, vI (σ 10 j 11), vI 1000000, vU] [] σ (CT mX5_seed 16 [vR 6 i, vR 2 j, vI x2, vU] [] Q)) : WP mX5_seed 0 [vR 6 i, vR 2 j, vI x2, vU] [] σ Q := by
  refine wp_aload_n dX5_seed_0 rfl rfl ?_
  refine wp_getR dX5_seed_1 fl_CustomValley_Search_9 rfl rfl ?_
  refine wp_aload_n dX5_seed_4 rfl rfl ?_
  refine wp_getR dX5_seed_5 fl_CustomValley_Search_21 rfl rfl ?_
  refine wp_getI dX5_seed_8 fl_CustomValley_Search_27 rfl rfl rfl ?_
  refine wp_ldc (n := 1000000) dX5_seed_11 ck_CustomValley_Search_33 rfl ?_
  refine wp_invN (N := mX11_fillTo) [vR 37 i, vI (σ 10 j 11), vI 1000000] dX5_seed_13 mn_CustomValley_Search_34 mvX11_fillTo rfl rfl rfl (Nat.le_of_ble_eq_true rfl) (Nat.le_of_ble_eq_true rfl) (by decide) (by decide) ?_
  exact h
theorem b_X5_seed_16 {i : Nat} {j : Nat} {x2 : Int} {σ : St} {Q : Res → St → Prop} (h : (0 ≤ x2 ∧ x2 < 1025) ∧ (WP mX5_seed 26 [vR 6 i, vR 2 j, vI x2, vI (σ 30 j x2.toNat)] [] σ Q)) : WP mX5_seed 16 [vR 6 i, vR 2 j, vI x2, vU] [] σ Q := by
  refine wp_aload_n dX5_seed_16 rfl rfl ?_
  refine wp_getR dX5_seed_17 fl_CustomValley_Search_49 rfl rfl ?_
  refine wp_getR dX5_seed_20 fl_CustomValley_Search_70 rfl rfl ?_
  refine wp_iload_n dX5_seed_23 rfl rfl ?_
  have s1 := h.1
  replace h := h.2
  refine wp_iaload dX5_seed_24 rfl rfl s1.1 s1.2 ?_
  refine wp_istore_n dX5_seed_25 rfl (by decide) rfl rfl ?_
  exact h
theorem b_X5_seed_26 {i : Nat} {j : Nat} {x2 : Int} {x3 : Int} {σ : St} {Q : Res → St → Prop} (h : (in32 (x2 + 1)) ∧ ((0 ≤ x2 + 1 ∧ (x2 + 1) < 1025) ∧ ((((σ 30 j ((x2 + 1).toNat)) ≤ x3) → (Q (.inl none) σ)) ∧ ((x3 < (σ 30 j ((x2 + 1).toNat))) → ((0 ≤ x3 ∧ x3 < 1024) ∧ ((0 ≤ σ 29 j x3.toNat ∧ (σ 29 j x3.toNat) < 1024) ∧ ((in32 (x3 + 1)) ∧ (WP mX5_seed 26 [vR 6 i, vR 2 j, vI x2, vI (x3 + 1)] [] (up σ 37 i ((σ 29 j x3.toNat).toNat) 0) Q)))))))) : WP mX5_seed 26 [vR 6 i, vR 2 j, vI x2, vI x3] [] σ Q := by
  refine wp_iload_n dX5_seed_26 rfl rfl ?_
  refine wp_aload_n dX5_seed_27 rfl rfl ?_
  refine wp_getR dX5_seed_28 fl_CustomValley_Search_49 rfl rfl ?_
  refine wp_getR dX5_seed_31 fl_CustomValley_Search_70 rfl rfl ?_
  refine wp_iload_n dX5_seed_34 rfl rfl ?_
  refine wp_iconst dX5_seed_35 rfl ?_
  have s5 := h.1
  replace h := h.2
  refine wp_iadd dX5_seed_36 ?_ (h1 := s5.1) (h2 := s5.2)
  have s4 := h.1
  replace h := h.2
  refine wp_iaload dX5_seed_37 rfl rfl s4.1 s4.2 ?_
  refine wp_icmp_ge (tgt := 62) dX5_seed_38 (by decide) (fun hc => ?_) (fun hc => ?_)
  · replace h := h.1 hc
    exact wp_ret dX5_seed_62 rfl h
  · replace h := h.2 hc
    refine wp_aload_n dX5_seed_41 rfl rfl ?_
    refine wp_getR dX5_seed_42 fl_CustomValley_Search_9 rfl rfl ?_
    refine wp_aload_n dX5_seed_45 rfl rfl ?_
    refine wp_getR dX5_seed_46 fl_CustomValley_Search_49 rfl rfl ?_
    refine wp_getR dX5_seed_49 fl_CustomValley_Search_73 rfl rfl ?_
    refine wp_iload_n dX5_seed_52 rfl rfl ?_
    have s3 := h.1
    replace h := h.2
    refine wp_iaload dX5_seed_53 rfl rfl s3.1 s3.2 ?_
    refine wp_iconst dX5_seed_54 rfl ?_
    have s2 := h.1
    replace h := h.2
    refine wp_iastore dX5_seed_55 rfl rfl s2.1 s2.2 ?_
    have s1 := h.1
    replace h := h.2
    refine wp_iinc dX5_seed_56 rfl (by decide) rfl rfl ?_ (h1 := s1.1) (h2 := s1.2)
    refine wp_goto (tgt := 26) dX5_seed_59 (by decide) ?_
    exact h
theorem dX5_countMoves_0 : decode cX5_countMoves 0 = .ok (.aload_n 0, 1) := by decide +kernel
theorem dX5_countMoves_1 : decode cX5_countMoves 1 = .ok (.getfield 15, 3) := by decide +kernel
theorem dX5_countMoves_4 : decode cX5_countMoves 4 = .ok (.aload_n 1, 1) := by decide +kernel
theorem dX5_countMoves_5 : decode cX5_countMoves 5 = .ok (.getfield 21, 3) := by decide +kernel
theorem dX5_countMoves_8 : decode cX5_countMoves 8 = .ok (.getfield 27, 3) := by decide +kernel
theorem dX5_countMoves_11 : decode cX5_countMoves 11 = .ok (.ldc 33, 2) := by decide +kernel
theorem dX5_countMoves_13 : decode cX5_countMoves 13 = .ok (.invokestatic 34, 3) := by decide +kernel
theorem dX5_countMoves_16 : decode cX5_countMoves 16 = .ok (.aload_n 0, 1) := by decide +kernel
theorem dX5_countMoves_17 : decode cX5_countMoves 17 = .ok (.getfield 15, 3) := by decide +kernel
theorem dX5_countMoves_20 : decode cX5_countMoves 20 = .ok (.iload_n 2, 1) := by decide +kernel
theorem dX5_countMoves_21 : decode cX5_countMoves 21 = .ok (.iconst 0, 1) := by decide +kernel
theorem dX5_countMoves_22 : decode cX5_countMoves 22 = .ok (.iastore, 1) := by decide +kernel
theorem dX5_countMoves_23 : decode cX5_countMoves 23 = .ok (.aload_n 0, 1) := by decide +kernel
theorem dX5_countMoves_24 : decode cX5_countMoves 24 = .ok (.getfield 18, 3) := by decide +kernel
theorem dX5_countMoves_27 : decode cX5_countMoves 27 = .ok (.iconst 0, 1) := by decide +kernel
theorem dX5_countMoves_28 : decode cX5_countMoves 28 = .ok (.iload_n 2, 1) := by decide +kernel
theorem dX5_countMoves_29 : decode cX5_countMoves 29 = .ok (.iastore, 1) := by decide +kernel
theorem dX5_countMoves_30 : decode cX5_countMoves 30 = .ok (.aload_n 0, 1) := by decide +kernel
theorem dX5_countMoves_31 : decode cX5_countMoves 31 = .ok (.iconst 1, 1) := by decide +kernel
theorem dX5_countMoves_32 : decode cX5_countMoves 32 = .ok (.putfield 61, 3) := by decide +kernel
theorem dX5_countMoves_35 : decode cX5_countMoves 35 = .ok (.iconst 0, 1) := by decide +kernel
theorem dX5_countMoves_36 : decode cX5_countMoves 36 = .ok (.istore 4, 2) := by decide +kernel
theorem dX5_countMoves_38 : decode cX5_countMoves 38 = .ok (.iload 4, 2) := by decide +kernel
theorem dX5_countMoves_40 : decode cX5_countMoves 40 = .ok (.sipush 1024, 3) := by decide +kernel
theorem dX5_countMoves_43 : decode cX5_countMoves 43 = .ok (.if_icmp .ge 41, 3) := by decide +kernel
theorem dX5_countMoves_46 : decode cX5_countMoves 46 = .ok (.iload 4, 2) := by decide +kernel
theorem dX5_countMoves_48 : decode cX5_countMoves 48 = .ok (.aload_n 0, 1) := by decide +kernel
theorem dX5_countMoves_49 : decode cX5_countMoves 49 = .ok (.getfield 61, 3) := by decide +kernel
theorem dX5_countMoves_52 : decode cX5_countMoves 52 = .ok (.if_icmp .ge 32, 3) := by decide +kernel
theorem dX5_countMoves_55 : decode cX5_countMoves 55 = .ok (.aload_n 0, 1) := by decide +kernel
theorem dX5_countMoves_56 : decode cX5_countMoves 56 = .ok (.getfield 15, 3) := by decide +kernel
theorem dX5_countMoves_59 : decode cX5_countMoves 59 = .ok (.iload_n 3, 1) := by decide +kernel
theorem dX5_countMoves_60 : decode cX5_countMoves 60 = .ok (.iaload, 1) := by decide +kernel
theorem dX5_countMoves_61 : decode cX5_countMoves 61 = .ok (.ldc 33, 2) := by decide +kernel
theorem dX5_countMoves_63 : decode cX5_countMoves 63 = .ok (.if_icmp .ne 21, 3) := by decide +kernel
theorem dX5_countMoves_66 : decode cX5_countMoves 66 = .ok (.aload_n 0, 1) := by decide +kernel
theorem dX5_countMoves_67 : decode cX5_countMoves 67 = .ok (.aload_n 1, 1) := by decide +kernel
theorem dX5_countMoves_68 : decode cX5_countMoves 68 = .ok (.aload_n 0, 1) := by decide +kernel
theorem dX5_countMoves_69 : decode cX5_countMoves 69 = .ok (.getfield 18, 3) := by decide +kernel
theorem dX5_countMoves_72 : decode cX5_countMoves 72 = .ok (.iload 4, 2) := by decide +kernel
theorem dX5_countMoves_74 : decode cX5_countMoves 74 = .ok (.iaload, 1) := by decide +kernel
theorem dX5_countMoves_75 : decode cX5_countMoves 75 = .ok (.invokevirtual 104, 3) := by decide +kernel
theorem dX5_countMoves_78 : decode cX5_countMoves 78 = .ok (.iinc 4 1, 3) := by decide +kernel
theorem dX5_countMoves_81 : decode cX5_countMoves 81 = .ok (.goto (-43), 3) := by decide +kernel
theorem dX5_countMoves_84 : decode cX5_countMoves 84 = .ok (.return_, 1) := by decide +kernel
theorem b_X5_countMoves_0 {i : Nat} {j : Nat} {x2 : Int} {x3 : Int} {σ : St} {Q : Res → St → Prop} (h : WP mX11_fillTo 0 [vR 38 i, vI (σ 10 j 11), vI 1000000, vU] [] σ (CT mX5_countMoves 16 [vR 6 i, vR 2 j, vI x2, vI x3, vU] [] Q)) : WP mX5_countMoves 0 [vR 6 i, vR 2 j, vI x2, vI x3, vU] [] σ Q := by
  refine wp_aload_n dX5_countMoves_0 rfl rfl ?_
  refine wp_getR dX5_countMoves_1 fl_CustomValley_Search_15 rfl rfl ?_
  refine wp_aload_n dX5_countMoves_4 rfl rfl ?_
  refine wp_getR dX5_countMoves_5 fl_CustomValley_Search_21 rfl rfl ?_
  refine wp_getI dX5_countMoves_8 fl_CustomValley_Search_27 rfl rfl rfl ?_
  refine wp_ldc (n := 1000000) dX5_countMoves_11 ck_CustomValley_Search_33 rfl ?_
  refine wp_invN (N := mX11_fillTo) [vR 38 i, vI (σ 10 j 11), vI 1000000] dX5_countMoves_13 mn_CustomValley_Search_34 mvX11_fillTo rfl rfl rfl (Nat.le_of_ble_eq_true rfl) (Nat.le_of_ble_eq_true rfl) (by decide) (by decide) ?_
  exact h
theorem b_X5_countMoves_16 {i : Nat} {j : Nat} {x2 : Int} {x3 : Int} {σ : St} {Q : Res → St → Prop} (h : (0 ≤ x2 ∧ x2 < 1024) ∧ (WP mX5_countMoves 38 [vR 6 i, vR 2 j, vU, vI x3, vI 0] [] (up (up (up σ 38 i x2.toNat 0) 39 i 0 x2) 6 i 3 1) Q)) : WP mX5_countMoves 16 [vR 6 i, vR 2 j, vI x2, vI x3, vU] [] σ Q := by
  refine wp_aload_n dX5_countMoves_16 rfl rfl ?_
  refine wp_getR dX5_countMoves_17 fl_CustomValley_Search_15 rfl rfl ?_
  refine wp_iload_n dX5_countMoves_20 rfl rfl ?_
  refine wp_iconst dX5_countMoves_21 rfl ?_
  have s1 := h.1
  replace h := h.2
  refine wp_iastore dX5_countMoves_22 rfl rfl s1.1 s1.2 ?_
  refine wp_aload_n dX5_countMoves_23 rfl rfl ?_
  refine wp_getR dX5_countMoves_24 fl_CustomValley_Search_18 rfl rfl ?_
  refine wp_iconst dX5_countMoves_27 rfl ?_
  refine wp_iload_n dX5_countMoves_28 rfl rfl ?_
  refine wp_iastore dX5_countMoves_29 rfl rfl (by decide) (by decide) ?_
  refine wp_aload_n dX5_countMoves_30 rfl rfl ?_
  refine wp_iconst dX5_countMoves_31 rfl ?_
  refine wp_putI dX5_countMoves_32 fp_CustomValley_Search_61 rfl rfl rfl ?_
  refine wp_iconst dX5_countMoves_35 rfl ?_
  refine wp_istore dX5_countMoves_36 (by decide) rfl rfl ?_
  exact wp_drop (als' := [vR 6 i, vR 2 j, vU, vI x3, vI 0]) (lle_c (Or.inl rfl) (lle_c (Or.inl rfl) (lle_c (Or.inr rfl) (lle_c (Or.inl rfl) (lle_c (Or.inl rfl) lle_n))))) h
theorem b_X5_countMoves_38 {i : Nat} {j : Nat} {x3 : Int} {x4 : Int} {σ : St} {Q : Res → St → Prop} (h : ((1024 ≤ x4) → (Q (.inl none) σ)) ∧ ((x4 < 1024) → ((((σ 6 i 3) ≤ x4) → (Q (.inl none) σ)) ∧ ((x4 < (σ 6 i 3)) → ((0 ≤ x3 ∧ x3 < 1024) ∧ ((((σ 38 i x3.toNat) ≠ 1000000) → (Q (.inl none) σ)) ∧ (((σ 38 i x3.toNat) = 1000000) → ((0 ≤ x4 ∧ x4 < 1024) ∧ (WP mX5_reachBack 0 [vR 6 i, vR 2 j, vI (σ 39 i x4.toNat), vU, vU, vU] [] σ (CT mX5_countMoves 78 [vR 6 i, vR 2 j, vU, vI x3, vI x4] [] Q)))))))))) : WP mX5_countMoves 38 [vR 6 i, vR 2 j, vU, vI x3, vI x4] [] σ Q := by
  refine wp_iload dX5_countMoves_38 rfl ?_
  refine wp_sipush dX5_countMoves_40 rfl ?_
  refine wp_icmp_ge (tgt := 84) dX5_countMoves_43 (by decide) (fun hc => ?_) (fun hc => ?_)
  · replace h := h.1 hc
    exact wp_ret dX5_countMoves_84 rfl h
  · replace h := h.2 hc
    refine wp_iload dX5_countMoves_46 rfl ?_
    refine wp_aload_n dX5_countMoves_48 rfl rfl ?_
    refine wp_getI dX5_countMoves_49 fl_CustomValley_Search_61 rfl rfl rfl ?_
    refine wp_icmp_ge (tgt := 84) dX5_countMoves_52 (by decide) (fun hc => ?_) (fun hc => ?_)
    · replace h := h.1 hc
      exact wp_ret dX5_countMoves_84 rfl h
    · replace h := h.2 hc
      refine wp_aload_n dX5_countMoves_55 rfl rfl ?_
      refine wp_getR dX5_countMoves_56 fl_CustomValley_Search_15 rfl rfl ?_
      refine wp_iload_n dX5_countMoves_59 rfl rfl ?_
      have s2 := h.1
      replace h := h.2
      refine wp_iaload dX5_countMoves_60 rfl rfl s2.1 s2.2 ?_
      refine wp_ldc (n := 1000000) dX5_countMoves_61 ck_CustomValley_Search_33 rfl ?_
      refine wp_icmp_ne (tgt := 84) dX5_countMoves_63 (by decide) (fun hc => ?_) (fun hc => ?_)
      · replace h := h.1 hc
        exact wp_ret dX5_countMoves_84 rfl h
      · replace h := h.2 hc
        refine wp_aload_n dX5_countMoves_66 rfl rfl ?_
        refine wp_aload_n dX5_countMoves_67 rfl rfl ?_
        refine wp_aload_n dX5_countMoves_68 rfl rfl ?_
        refine wp_getR dX5_countMoves_69 fl_CustomValley_Search_18 rfl rfl ?_
        refine wp_iload dX5_countMoves_72 rfl ?_
        have s1 := h.1
        replace h := h.2
        refine wp_iaload dX5_countMoves_74 rfl rfl s1.1 s1.2 ?_
        refine wp_invV (N := mX5_reachBack) [vR 2 j, vI (σ 39 i x4.toNat)] dX5_countMoves_75 ml_CustomValley_Search_104 mvX5_reachBack rfl rfl rfl rfl rfl (Nat.le_of_ble_eq_true rfl) (Nat.le_of_ble_eq_true rfl) (by decide) (by decide) (by decide) ?_
        exact h
theorem b_X5_countMoves_78 {i : Nat} {j : Nat} {x3 : Int} {x4 : Int} {σ : St} {Q : Res → St → Prop} (h : (in32 (x4 + 1)) ∧ (WP mX5_countMoves 38 [vR 6 i, vR 2 j, vU, vI x3, vI (x4 + 1)] [] σ Q)) : WP mX5_countMoves 78 [vR 6 i, vR 2 j, vU, vI x3, vI x4] [] σ Q := by
  have s1 := h.1
  replace h := h.2
  refine wp_iinc dX5_countMoves_78 rfl (by decide) rfl rfl ?_ (h1 := s1.1) (h2 := s1.2)
  refine wp_goto (tgt := 38) dX5_countMoves_81 (by decide) ?_
  exact h
theorem dX5_settleBack_0 : decode cX5_settleBack 0 = .ok (.aload_n 0, 1) := by decide +kernel
theorem dX5_settleBack_1 : decode cX5_settleBack 1 = .ok (.aload_n 1, 1) := by decide +kernel
theorem dX5_settleBack_2 : decode cX5_settleBack 2 = .ok (.iload_n 2, 1) := by decide +kernel
theorem dX5_settleBack_3 : decode cX5_settleBack 3 = .ok (.invokevirtual 58, 3) := by decide +kernel
theorem dX5_settleBack_6 : decode cX5_settleBack 6 = .ok (.iconst 0, 1) := by decide +kernel
theorem dX5_settleBack_7 : decode cX5_settleBack 7 = .ok (.istore_n 3, 1) := by decide +kernel
theorem dX5_settleBack_8 : decode cX5_settleBack 8 = .ok (.iload_n 3, 1) := by decide +kernel
theorem dX5_settleBack_9 : decode cX5_settleBack 9 = .ok (.sipush 1024, 3) := by decide +kernel
theorem dX5_settleBack_12 : decode cX5_settleBack 12 = .ok (.if_icmp .ge 41, 3) := by decide +kernel
theorem dX5_settleBack_15 : decode cX5_settleBack 15 = .ok (.aload_n 0, 1) := by decide +kernel
theorem dX5_settleBack_16 : decode cX5_settleBack 16 = .ok (.getfield 61, 3) := by decide +kernel
theorem dX5_settleBack_19 : decode cX5_settleBack 19 = .ok (.ifCond .le 34, 3) := by decide +kernel
theorem dX5_settleBack_22 : decode cX5_settleBack 22 = .ok (.aload_n 0, 1) := by decide +kernel
theorem dX5_settleBack_23 : decode cX5_settleBack 23 = .ok (.dup, 1) := by decide +kernel
theorem dX5_settleBack_24 : decode cX5_settleBack 24 = .ok (.getfield 61, 3) := by decide +kernel
theorem dX5_settleBack_27 : decode cX5_settleBack 27 = .ok (.iconst 1, 1) := by decide +kernel
theorem dX5_settleBack_28 : decode cX5_settleBack 28 = .ok (.isub, 1) := by decide +kernel
theorem dX5_settleBack_29 : decode cX5_settleBack 29 = .ok (.putfield 61, 3) := by decide +kernel
theorem dX5_settleBack_32 : decode cX5_settleBack 32 = .ok (.iinc 3 1, 3) := by decide +kernel
theorem dX5_settleBack_35 : decode cX5_settleBack 35 = .ok (.aload_n 0, 1) := by decide +kernel
theorem dX5_settleBack_36 : decode cX5_settleBack 36 = .ok (.aload_n 1, 1) := by decide +kernel
theorem dX5_settleBack_37 : decode cX5_settleBack 37 = .ok (.aload_n 0, 1) := by decide +kernel
theorem dX5_settleBack_38 : decode cX5_settleBack 38 = .ok (.getfield 18, 3) := by decide +kernel
theorem dX5_settleBack_41 : decode cX5_settleBack 41 = .ok (.aload_n 0, 1) := by decide +kernel
theorem dX5_settleBack_42 : decode cX5_settleBack 42 = .ok (.getfield 61, 3) := by decide +kernel
theorem dX5_settleBack_45 : decode cX5_settleBack 45 = .ok (.iaload, 1) := by decide +kernel
theorem dX5_settleBack_46 : decode cX5_settleBack 46 = .ok (.iload_n 2, 1) := by decide +kernel
theorem dX5_settleBack_47 : decode cX5_settleBack 47 = .ok (.invokevirtual 79, 3) := by decide +kernel
theorem dX5_settleBack_50 : decode cX5_settleBack 50 = .ok (.goto (-42), 3) := by decide +kernel
theorem dX5_settleBack_53 : decode cX5_settleBack 53 = .ok (.iload_n 3, 1) := by decide +kernel
theorem dX5_settleBack_54 : decode cX5_settleBack 54 = .ok (.ireturn, 1) := by decide +kernel
theorem b_X5_settleBack_0 {i : Nat} {j : Nat} {x2 : Int} {σ : St} {Q : Res → St → Prop} (h : WP mX5_collect 0 [vR 6 i, vR 2 j, vI x2, vU, vU] [] σ (CT mX5_settleBack 6 [vR 6 i, vR 2 j, vI x2, vU] [] Q)) : WP mX5_settleBack 0 [vR 6 i, vR 2 j, vI x2, vU] [] σ Q := by
  refine wp_aload_n dX5_settleBack_0 rfl rfl ?_
  refine wp_aload_n dX5_settleBack_1 rfl rfl ?_
  refine wp_iload_n dX5_settleBack_2 rfl rfl ?_
  refine wp_invV (N := mX5_collect) [vR 2 j, vI x2] dX5_settleBack_3 ml_CustomValley_Search_58 mvX5_collect rfl rfl rfl rfl rfl (Nat.le_of_ble_eq_true rfl) (Nat.le_of_ble_eq_true rfl) (by decide) (by decide) (by decide) ?_
  exact h
theorem b_X5_settleBack_6 {i : Nat} {j : Nat} {x2 : Int} {σ : St} {Q : Res → St → Prop} (h : WP mX5_settleBack 8 [vR 6 i, vR 2 j, vI x2, vI 0] [] σ Q) : WP mX5_settleBack 6 [vR 6 i, vR 2 j, vI x2, vU] [] σ Q := by
  refine wp_iconst dX5_settleBack_6 rfl ?_
  refine wp_istore_n dX5_settleBack_7 rfl (by decide) rfl rfl ?_
  exact h
theorem b_X5_settleBack_8 {i : Nat} {j : Nat} {x2 : Int} {x3 : Int} {σ : St} {Q : Res → St → Prop} (h : ((1024 ≤ x3) → (Q (.inl (some (vI x3))) σ)) ∧ ((x3 < 1024) → ((((σ 6 i 3) ≤ 0) → (Q (.inl (some (vI x3))) σ)) ∧ ((0 < (σ 6 i 3)) → ((in32 ((σ 6 i 3) - 1)) ∧ ((in32 (x3 + 1)) ∧ ((0 ≤ (σ 6 i 3) - 1 ∧ ((σ 6 i 3) - 1) < 1024) ∧ (WP mX5_backFrom 0 [vR 6 i, vR 2 j, vI (σ 39 i (((σ 6 i 3) - 1).toNat)), vI x2, vU, vU] [] (up σ 6 i 3 ((σ 6 i 3) - 1)) (CT mX5_settleBack 50 [vR 6 i, vR 2 j, vI x2, vI (x3 + 1)] [] Q))))))))) : WP mX5_settleBack 8 [vR 6 i, vR 2 j, vI x2, vI x3] [] σ Q := by
  refine wp_iload_n dX5_settleBack_8 rfl rfl ?_
  refine wp_sipush dX5_settleBack_9 rfl ?_
  refine wp_icmp_ge (tgt := 53) dX5_settleBack_12 (by decide) (fun hc => ?_) (fun hc => ?_)
  · replace h := h.1 hc
    refine wp_iload_n dX5_settleBack_53 rfl rfl ?_
    exact wp_iret dX5_settleBack_54 rfl h
  · replace h := h.2 hc
    refine wp_aload_n dX5_settleBack_15 rfl rfl ?_
    refine wp_getI dX5_settleBack_16 fl_CustomValley_Search_61 rfl rfl rfl ?_
    refine wp_if_le (tgt := 53) dX5_settleBack_19 (by decide) (fun hc => ?_) (fun hc => ?_)
    · replace h := h.1 hc
      refine wp_iload_n dX5_settleBack_53 rfl rfl ?_
      exact wp_iret dX5_settleBack_54 rfl h
    · replace h := h.2 hc
      refine wp_aload_n dX5_settleBack_22 rfl rfl ?_
      refine wp_dup dX5_settleBack_23 ?_
      refine wp_getI dX5_settleBack_24 fl_CustomValley_Search_61 rfl rfl rfl ?_
      refine wp_iconst dX5_settleBack_27 rfl ?_
      have s3 := h.1
      replace h := h.2
      refine wp_isub dX5_settleBack_28 ?_ (h1 := s3.1) (h2 := s3.2)
      refine wp_putI dX5_settleBack_29 fp_CustomValley_Search_61 rfl rfl rfl ?_
      have s2 := h.1
      replace h := h.2
      refine wp_iinc dX5_settleBack_32 rfl (by decide) rfl rfl ?_ (h1 := s2.1) (h2 := s2.2)
      refine wp_aload_n dX5_settleBack_35 rfl rfl ?_
      refine wp_aload_n dX5_settleBack_36 rfl rfl ?_
      refine wp_aload_n dX5_settleBack_37 rfl rfl ?_
      refine wp_getR dX5_settleBack_38 fl_CustomValley_Search_18 rfl rfl ?_
      refine wp_aload_n dX5_settleBack_41 rfl rfl ?_
      refine wp_getI dX5_settleBack_42 fl_CustomValley_Search_61 rfl rfl rfl ?_
      rw [show (up σ 6 i 3 ((σ 6 i 3) - 1)) 6 i 3 = (σ 6 i 3) - 1 from by simp [up]]
      have s1 := h.1
      replace h := h.2
      refine wp_iaload dX5_settleBack_45 rfl rfl s1.1 s1.2 ?_
      rw [show (up σ 6 i 3 ((σ 6 i 3) - 1)) 39 i (((σ 6 i 3) - 1).toNat) = σ 39 i (((σ 6 i 3) - 1).toNat) from by simp [up]]
      refine wp_iload_n dX5_settleBack_46 rfl rfl ?_
      refine wp_invV (N := mX5_backFrom) [vR 2 j, vI (σ 39 i (((σ 6 i 3) - 1).toNat)), vI x2] dX5_settleBack_47 ml_CustomValley_Search_79 mvX5_backFrom rfl rfl rfl rfl rfl (Nat.le_of_ble_eq_true rfl) (Nat.le_of_ble_eq_true rfl) (by decide) (by decide) (by decide) ?_
      exact h
theorem b_X5_settleBack_50 {i : Nat} {j : Nat} {x2 : Int} {x3 : Int} {σ : St} {Q : Res → St → Prop} (h : WP mX5_settleBack 8 [vR 6 i, vR 2 j, vI x2, vI x3] [] σ Q) : WP mX5_settleBack 50 [vR 6 i, vR 2 j, vI x2, vI x3] [] σ Q := by
  refine wp_goto (tgt := 8) dX5_settleBack_50 (by decide) ?_
  exact h
theorem dX5_settleForth_0 : decode cX5_settleForth 0 = .ok (.iconst 0, 1) := by decide +kernel
theorem dX5_settleForth_1 : decode cX5_settleForth 1 = .ok (.istore_n 3, 1) := by decide +kernel
theorem dX5_settleForth_2 : decode cX5_settleForth 2 = .ok (.iload_n 3, 1) := by decide +kernel
theorem dX5_settleForth_3 : decode cX5_settleForth 3 = .ok (.sipush 1024, 3) := by decide +kernel
theorem dX5_settleForth_6 : decode cX5_settleForth 6 = .ok (.if_icmp .ge 41, 3) := by decide +kernel
theorem dX5_settleForth_9 : decode cX5_settleForth 9 = .ok (.aload_n 0, 1) := by decide +kernel
theorem dX5_settleForth_10 : decode cX5_settleForth 10 = .ok (.getfield 61, 3) := by decide +kernel
theorem dX5_settleForth_13 : decode cX5_settleForth 13 = .ok (.ifCond .le 34, 3) := by decide +kernel
theorem dX5_settleForth_16 : decode cX5_settleForth 16 = .ok (.aload_n 0, 1) := by decide +kernel
theorem dX5_settleForth_17 : decode cX5_settleForth 17 = .ok (.dup, 1) := by decide +kernel
theorem dX5_settleForth_18 : decode cX5_settleForth 18 = .ok (.getfield 61, 3) := by decide +kernel
theorem dX5_settleForth_21 : decode cX5_settleForth 21 = .ok (.iconst 1, 1) := by decide +kernel
theorem dX5_settleForth_22 : decode cX5_settleForth 22 = .ok (.isub, 1) := by decide +kernel
theorem dX5_settleForth_23 : decode cX5_settleForth 23 = .ok (.putfield 61, 3) := by decide +kernel
theorem dX5_settleForth_26 : decode cX5_settleForth 26 = .ok (.aload_n 0, 1) := by decide +kernel
theorem dX5_settleForth_27 : decode cX5_settleForth 27 = .ok (.aload_n 1, 1) := by decide +kernel
theorem dX5_settleForth_28 : decode cX5_settleForth 28 = .ok (.aload_n 0, 1) := by decide +kernel
theorem dX5_settleForth_29 : decode cX5_settleForth 29 = .ok (.getfield 18, 3) := by decide +kernel
theorem dX5_settleForth_32 : decode cX5_settleForth 32 = .ok (.aload_n 0, 1) := by decide +kernel
theorem dX5_settleForth_33 : decode cX5_settleForth 33 = .ok (.getfield 61, 3) := by decide +kernel
theorem dX5_settleForth_36 : decode cX5_settleForth 36 = .ok (.iaload, 1) := by decide +kernel
theorem dX5_settleForth_37 : decode cX5_settleForth 37 = .ok (.iload_n 2, 1) := by decide +kernel
theorem dX5_settleForth_38 : decode cX5_settleForth 38 = .ok (.invokevirtual 101, 3) := by decide +kernel
theorem dX5_settleForth_41 : decode cX5_settleForth 41 = .ok (.iinc 3 1, 3) := by decide +kernel
theorem dX5_settleForth_44 : decode cX5_settleForth 44 = .ok (.goto (-42), 3) := by decide +kernel
theorem dX5_settleForth_47 : decode cX5_settleForth 47 = .ok (.return_, 1) := by decide +kernel
theorem b_X5_settleForth_0 {i : Nat} {j : Nat} {x2 : Int} {σ : St} {Q : Res → St → Prop} (h : WP mX5_settleForth 2 [vR 6 i, vR 2 j, vI x2, vI 0] [] σ Q) : WP mX5_settleForth 0 [vR 6 i, vR 2 j, vI x2, vU] [] σ Q := by
  refine wp_iconst dX5_settleForth_0 rfl ?_
  refine wp_istore_n dX5_settleForth_1 rfl (by decide) rfl rfl ?_
  exact h
theorem b_X5_settleForth_2 {i : Nat} {j : Nat} {x2 : Int} {x3 : Int} {σ : St} {Q : Res → St → Prop} (h : ((1024 ≤ x3) → (Q (.inl none) σ)) ∧ ((x3 < 1024) → ((((σ 6 i 3) ≤ 0) → (Q (.inl none) σ)) ∧ ((0 < (σ 6 i 3)) → ((in32 ((σ 6 i 3) - 1)) ∧ ((0 ≤ (σ 6 i 3) - 1 ∧ ((σ 6 i 3) - 1) < 1024) ∧ (WP mX5_forthFrom 0 [vR 6 i, vR 2 j, vI (σ 39 i (((σ 6 i 3) - 1).toNat)), vI x2, vU, vU] [] (up σ 6 i 3 ((σ 6 i 3) - 1)) (CT mX5_settleForth 41 [vR 6 i, vR 2 j, vI x2, vI x3] [] Q)))))))) : WP mX5_settleForth 2 [vR 6 i, vR 2 j, vI x2, vI x3] [] σ Q := by
  refine wp_iload_n dX5_settleForth_2 rfl rfl ?_
  refine wp_sipush dX5_settleForth_3 rfl ?_
  refine wp_icmp_ge (tgt := 47) dX5_settleForth_6 (by decide) (fun hc => ?_) (fun hc => ?_)
  · replace h := h.1 hc
    exact wp_ret dX5_settleForth_47 rfl h
  · replace h := h.2 hc
    refine wp_aload_n dX5_settleForth_9 rfl rfl ?_
    refine wp_getI dX5_settleForth_10 fl_CustomValley_Search_61 rfl rfl rfl ?_
    refine wp_if_le (tgt := 47) dX5_settleForth_13 (by decide) (fun hc => ?_) (fun hc => ?_)
    · replace h := h.1 hc
      exact wp_ret dX5_settleForth_47 rfl h
    · replace h := h.2 hc
      refine wp_aload_n dX5_settleForth_16 rfl rfl ?_
      refine wp_dup dX5_settleForth_17 ?_
      refine wp_getI dX5_settleForth_18 fl_CustomValley_Search_61 rfl rfl rfl ?_
      refine wp_iconst dX5_settleForth_21 rfl ?_
      have s2 := h.1
      replace h := h.2
      refine wp_isub dX5_settleForth_22 ?_ (h1 := s2.1) (h2 := s2.2)
      refine wp_putI dX5_settleForth_23 fp_CustomValley_Search_61 rfl rfl rfl ?_
      refine wp_aload_n dX5_settleForth_26 rfl rfl ?_
      refine wp_aload_n dX5_settleForth_27 rfl rfl ?_
      refine wp_aload_n dX5_settleForth_28 rfl rfl ?_
      refine wp_getR dX5_settleForth_29 fl_CustomValley_Search_18 rfl rfl ?_
      refine wp_aload_n dX5_settleForth_32 rfl rfl ?_
      refine wp_getI dX5_settleForth_33 fl_CustomValley_Search_61 rfl rfl rfl ?_
      rw [show (up σ 6 i 3 ((σ 6 i 3) - 1)) 6 i 3 = (σ 6 i 3) - 1 from by simp [up]]
      have s1 := h.1
      replace h := h.2
      refine wp_iaload dX5_settleForth_36 rfl rfl s1.1 s1.2 ?_
      rw [show (up σ 6 i 3 ((σ 6 i 3) - 1)) 39 i (((σ 6 i 3) - 1).toNat) = σ 39 i (((σ 6 i 3) - 1).toNat) from by simp [up]]
      refine wp_iload_n dX5_settleForth_37 rfl rfl ?_
      refine wp_invV (N := mX5_forthFrom) [vR 2 j, vI (σ 39 i (((σ 6 i 3) - 1).toNat)), vI x2] dX5_settleForth_38 ml_CustomValley_Search_101 mvX5_forthFrom rfl rfl rfl rfl rfl (Nat.le_of_ble_eq_true rfl) (Nat.le_of_ble_eq_true rfl) (by decide) (by decide) (by decide) ?_
      exact h
theorem b_X5_settleForth_41 {i : Nat} {j : Nat} {x2 : Int} {x3 : Int} {σ : St} {Q : Res → St → Prop} (h : (in32 (x3 + 1)) ∧ (WP mX5_settleForth 2 [vR 6 i, vR 2 j, vI x2, vI (x3 + 1)] [] σ Q)) : WP mX5_settleForth 41 [vR 6 i, vR 2 j, vI x2, vI x3] [] σ Q := by
  have s1 := h.1
  replace h := h.2
  refine wp_iinc dX5_settleForth_41 rfl (by decide) rfl rfl ?_ (h1 := s1.1) (h2 := s1.2)
  refine wp_goto (tgt := 2) dX5_settleForth_44 (by decide) ?_
  exact h
theorem dX5_trace_0 : decode cX5_trace 0 = .ok (.iload_n 2, 1) := by decide +kernel
theorem dX5_trace_1 : decode cX5_trace 1 = .ok (.istore 4, 2) := by decide +kernel
theorem dX5_trace_3 : decode cX5_trace 3 = .ok (.aload_n 0, 1) := by decide +kernel
theorem dX5_trace_4 : decode cX5_trace 4 = .ok (.getfield 15, 3) := by decide +kernel
theorem dX5_trace_7 : decode cX5_trace 7 = .ok (.iload_n 2, 1) := by decide +kernel
theorem dX5_trace_8 : decode cX5_trace 8 = .ok (.iaload, 1) := by decide +kernel
theorem dX5_trace_9 : decode cX5_trace 9 = .ok (.istore 5, 2) := by decide +kernel
theorem dX5_trace_11 : decode cX5_trace 11 = .ok (.iload 5, 2) := by decide +kernel
theorem dX5_trace_13 : decode cX5_trace 13 = .ok (.aload_n 3, 1) := by decide +kernel
theorem dX5_trace_14 : decode cX5_trace 14 = .ok (.arraylength, 1) := by decide +kernel
theorem dX5_trace_15 : decode cX5_trace 15 = .ok (.if_icmp .lt 5, 3) := by decide +kernel
theorem dX5_trace_18 : decode cX5_trace 18 = .ok (.iconst (-1), 1) := by decide +kernel
theorem dX5_trace_19 : decode cX5_trace 19 = .ok (.ireturn, 1) := by decide +kernel
theorem dX5_trace_20 : decode cX5_trace 20 = .ok (.aload_n 3, 1) := by decide +kernel
theorem dX5_trace_21 : decode cX5_trace 21 = .ok (.iconst 0, 1) := by decide +kernel
theorem dX5_trace_22 : decode cX5_trace 22 = .ok (.iload 4, 2) := by decide +kernel
theorem dX5_trace_24 : decode cX5_trace 24 = .ok (.iastore, 1) := by decide +kernel
theorem dX5_trace_25 : decode cX5_trace 25 = .ok (.iconst 1, 1) := by decide +kernel
theorem dX5_trace_26 : decode cX5_trace 26 = .ok (.istore 6, 2) := by decide +kernel
theorem dX5_trace_28 : decode cX5_trace 28 = .ok (.iload 6, 2) := by decide +kernel
theorem dX5_trace_30 : decode cX5_trace 30 = .ok (.iload 5, 2) := by decide +kernel
theorem dX5_trace_32 : decode cX5_trace 32 = .ok (.if_icmp .gt 24, 3) := by decide +kernel
theorem dX5_trace_35 : decode cX5_trace 35 = .ok (.aload_n 0, 1) := by decide +kernel
theorem dX5_trace_36 : decode cX5_trace 36 = .ok (.aload_n 1, 1) := by decide +kernel
theorem dX5_trace_37 : decode cX5_trace 37 = .ok (.iload 4, 2) := by decide +kernel
theorem dX5_trace_39 : decode cX5_trace 39 = .ok (.invokevirtual 107, 3) := by decide +kernel
theorem dX5_trace_42 : decode cX5_trace 42 = .ok (.istore 4, 2) := by decide +kernel
theorem dX5_trace_44 : decode cX5_trace 44 = .ok (.aload_n 3, 1) := by decide +kernel
theorem dX5_trace_45 : decode cX5_trace 45 = .ok (.iload 6, 2) := by decide +kernel
theorem dX5_trace_47 : decode cX5_trace 47 = .ok (.iload 4, 2) := by decide +kernel
theorem dX5_trace_49 : decode cX5_trace 49 = .ok (.iastore, 1) := by decide +kernel
theorem dX5_trace_50 : decode cX5_trace 50 = .ok (.iinc 6 1, 3) := by decide +kernel
theorem dX5_trace_53 : decode cX5_trace 53 = .ok (.goto (-25), 3) := by decide +kernel
theorem dX5_trace_56 : decode cX5_trace 56 = .ok (.iload 5, 2) := by decide +kernel
theorem dX5_trace_58 : decode cX5_trace 58 = .ok (.ireturn, 1) := by decide +kernel
theorem b_X5_trace_0 {i : Nat} {j : Nat} {x2 : Int} {σ : St} {Q : Res → St → Prop} (h : (0 ≤ x2 ∧ x2 < 1024) ∧ ((((σ 38 i x2.toNat) < 1024) → (WP mX5_trace 28 [vR 6 i, vR 2 j, vU, vR 63 0, vI x2, vI (σ 38 i x2.toNat), vI 1] [] (up σ 63 0 0 x2) Q)) ∧ ((1024 ≤ (σ 38 i x2.toNat)) → (Q (.inl (some (vI (-1)))) σ)))) : WP mX5_trace 0 [vR 6 i, vR 2 j, vI x2, vR 63 0, vU, vU, vU] [] σ Q := by
  refine wp_iload_n dX5_trace_0 rfl rfl ?_
  refine wp_istore dX5_trace_1 (by decide) rfl rfl ?_
  refine wp_aload_n dX5_trace_3 rfl rfl ?_
  refine wp_getR dX5_trace_4 fl_CustomValley_Search_15 rfl rfl ?_
  refine wp_iload_n dX5_trace_7 rfl rfl ?_
  have s1 := h.1
  replace h := h.2
  refine wp_iaload dX5_trace_8 rfl rfl s1.1 s1.2 ?_
  refine wp_istore dX5_trace_9 (by decide) rfl rfl ?_
  refine wp_iload dX5_trace_11 rfl ?_
  refine wp_aload_n dX5_trace_13 rfl rfl ?_
  refine wp_alen (n := 1024) dX5_trace_14 rfl (by decide) rfl ?_
  refine wp_icmp_lt (tgt := 20) dX5_trace_15 (by decide) (fun hc => ?_) (fun hc => ?_)
  · replace h := h.1 hc
    refine wp_aload_n dX5_trace_20 rfl rfl ?_
    refine wp_iconst dX5_trace_21 rfl ?_
    refine wp_iload dX5_trace_22 rfl ?_
    refine wp_iastore dX5_trace_24 rfl rfl (by decide) (by decide) ?_
    refine wp_iconst dX5_trace_25 rfl ?_
    refine wp_istore dX5_trace_26 (by decide) rfl rfl ?_
    exact wp_drop (als' := [vR 6 i, vR 2 j, vU, vR 63 0, vI x2, vI (σ 38 i x2.toNat), vI 1]) (lle_c (Or.inl rfl) (lle_c (Or.inl rfl) (lle_c (Or.inr rfl) (lle_c (Or.inl rfl) (lle_c (Or.inl rfl) (lle_c (Or.inl rfl) (lle_c (Or.inl rfl) lle_n))))))) h
  · replace h := h.2 hc
    refine wp_iconst dX5_trace_18 rfl ?_
    exact wp_iret dX5_trace_19 rfl h
theorem b_X5_trace_28 {i : Nat} {j : Nat} {x4 : Int} {x5 : Int} {x6 : Int} {σ : St} {Q : Res → St → Prop} (h : ((x5 < x6) → (Q (.inl (some (vI x5))) σ)) ∧ ((x6 ≤ x5) → (WP mX5_leastNext 0 [vR 6 i, vR 2 j, vI x4, vU, vU, vU, vU] [] σ (CT mX5_trace 42 [vR 6 i, vR 2 j, vU, vR 63 0, vU, vI x5, vI x6] [] Q)))) : WP mX5_trace 28 [vR 6 i, vR 2 j, vU, vR 63 0, vI x4, vI x5, vI x6] [] σ Q := by
  refine wp_iload dX5_trace_28 rfl ?_
  refine wp_iload dX5_trace_30 rfl ?_
  refine wp_icmp_gt (tgt := 56) dX5_trace_32 (by decide) (fun hc => ?_) (fun hc => ?_)
  · replace h := h.1 hc
    refine wp_iload dX5_trace_56 rfl ?_
    exact wp_iret dX5_trace_58 rfl h
  · replace h := h.2 hc
    refine wp_aload_n dX5_trace_35 rfl rfl ?_
    refine wp_aload_n dX5_trace_36 rfl rfl ?_
    refine wp_iload dX5_trace_37 rfl ?_
    refine wp_invV (N := mX5_leastNext) [vR 2 j, vI x4] dX5_trace_39 ml_CustomValley_Search_107 mvX5_leastNext rfl rfl rfl rfl rfl (Nat.le_of_ble_eq_true rfl) (Nat.le_of_ble_eq_true rfl) (by decide) (by decide) (by decide) ?_
    exact WP.mono h (ct_drop (lle_c (Or.inl rfl) (lle_c (Or.inl rfl) (lle_c (Or.inl rfl) (lle_c (Or.inl rfl) (lle_c (Or.inr rfl) (lle_c (Or.inl rfl) (lle_c (Or.inl rfl) lle_n))))))))
theorem b_X5_trace_42 {i : Nat} {j : Nat} {x5 : Int} {x6 : Int} {t0 : Int} {σ : St} {Q : Res → St → Prop} (h : (0 ≤ x6 ∧ x6 < 1024) ∧ ((in32 (x6 + 1)) ∧ (WP mX5_trace 28 [vR 6 i, vR 2 j, vU, vR 63 0, vI t0, vI x5, vI (x6 + 1)] [] (up σ 63 0 x6.toNat t0) Q))) : WP mX5_trace 42 [vR 6 i, vR 2 j, vU, vR 63 0, vU, vI x5, vI x6] [vI t0] σ Q := by
  refine wp_istore dX5_trace_42 (by decide) rfl rfl ?_
  refine wp_aload_n dX5_trace_44 rfl rfl ?_
  refine wp_iload dX5_trace_45 rfl ?_
  refine wp_iload dX5_trace_47 rfl ?_
  have s2 := h.1
  replace h := h.2
  refine wp_iastore dX5_trace_49 rfl rfl s2.1 s2.2 ?_
  have s1 := h.1
  replace h := h.2
  refine wp_iinc dX5_trace_50 rfl (by decide) rfl rfl ?_ (h1 := s1.1) (h2 := s1.2)
  refine wp_goto (tgt := 28) dX5_trace_53 (by decide) ?_
  exact h
theorem dX5_leave_0 : decode cX5_leave 0 = .ok (.aload_n 1, 1) := by decide +kernel
theorem dX5_leave_1 : decode cX5_leave 1 = .ok (.getfield 49, 3) := by decide +kernel
theorem dX5_leave_4 : decode cX5_leave 4 = .ok (.getfield 53, 3) := by decide +kernel
theorem dX5_leave_7 : decode cX5_leave 7 = .ok (.iload_n 2, 1) := by decide +kernel
theorem dX5_leave_8 : decode cX5_leave 8 = .ok (.iaload, 1) := by decide +kernel
theorem dX5_leave_9 : decode cX5_leave 9 = .ok (.aload_n 1, 1) := by decide +kernel
theorem dX5_leave_10 : decode cX5_leave 10 = .ok (.getfield 21, 3) := by decide +kernel
theorem dX5_leave_13 : decode cX5_leave 13 = .ok (.getfield 46, 3) := by decide +kernel
theorem dX5_leave_16 : decode cX5_leave 16 = .ok (.if_icmp .ne 5, 3) := by decide +kernel
theorem dX5_leave_19 : decode cX5_leave 19 = .ok (.iconst (-1), 1) := by decide +kernel
theorem dX5_leave_20 : decode cX5_leave 20 = .ok (.ireturn, 1) := by decide +kernel
theorem dX5_leave_21 : decode cX5_leave 21 = .ok (.aload_n 0, 1) := by decide +kernel
theorem dX5_leave_22 : decode cX5_leave 22 = .ok (.aload_n 1, 1) := by decide +kernel
theorem dX5_leave_23 : decode cX5_leave 23 = .ok (.iload_n 2, 1) := by decide +kernel
theorem dX5_leave_24 : decode cX5_leave 24 = .ok (.invokevirtual 42, 3) := by decide +kernel
theorem dX5_leave_27 : decode cX5_leave 27 = .ok (.iconst 0, 1) := by decide +kernel
theorem dX5_leave_28 : decode cX5_leave 28 = .ok (.istore_n 3, 1) := by decide +kernel
theorem dX5_leave_29 : decode cX5_leave 29 = .ok (.iload_n 3, 1) := by decide +kernel
theorem dX5_leave_30 : decode cX5_leave 30 = .ok (.bipush 30, 2) := by decide +kernel
theorem dX5_leave_32 : decode cX5_leave 32 = .ok (.if_icmp .gt 60, 3) := by decide +kernel
theorem dX5_leave_35 : decode cX5_leave 35 = .ok (.aload_n 0, 1) := by decide +kernel
theorem dX5_leave_36 : decode cX5_leave 36 = .ok (.aload_n 1, 1) := by decide +kernel
theorem dX5_leave_37 : decode cX5_leave 37 = .ok (.iload_n 3, 1) := by decide +kernel
theorem dX5_leave_38 : decode cX5_leave 38 = .ok (.invokevirtual 58, 3) := by decide +kernel
theorem dX5_leave_41 : decode cX5_leave 41 = .ok (.iconst 0, 1) := by decide +kernel
theorem dX5_leave_42 : decode cX5_leave 42 = .ok (.istore 4, 2) := by decide +kernel
theorem dX5_leave_44 : decode cX5_leave 44 = .ok (.iload 4, 2) := by decide +kernel
theorem dX5_leave_46 : decode cX5_leave 46 = .ok (.aload_n 0, 1) := by decide +kernel
theorem dX5_leave_47 : decode cX5_leave 47 = .ok (.getfield 61, 3) := by decide +kernel
theorem dX5_leave_50 : decode cX5_leave 50 = .ok (.if_icmp .ge 30, 3) := by decide +kernel
theorem dX5_leave_53 : decode cX5_leave 53 = .ok (.aload_n 1, 1) := by decide +kernel
theorem dX5_leave_54 : decode cX5_leave 54 = .ok (.getfield 49, 3) := by decide +kernel
theorem dX5_leave_57 : decode cX5_leave 57 = .ok (.getfield 64, 3) := by decide +kernel
theorem dX5_leave_60 : decode cX5_leave 60 = .ok (.aload_n 0, 1) := by decide +kernel
theorem dX5_leave_61 : decode cX5_leave 61 = .ok (.getfield 18, 3) := by decide +kernel
theorem dX5_leave_64 : decode cX5_leave 64 = .ok (.iload 4, 2) := by decide +kernel
theorem dX5_leave_66 : decode cX5_leave 66 = .ok (.iaload, 1) := by decide +kernel
theorem dX5_leave_67 : decode cX5_leave 67 = .ok (.iaload, 1) := by decide +kernel
theorem dX5_leave_68 : decode cX5_leave 68 = .ok (.iload_n 2, 1) := by decide +kernel
theorem dX5_leave_69 : decode cX5_leave 69 = .ok (.if_icmp .eq 5, 3) := by decide +kernel
theorem dX5_leave_72 : decode cX5_leave 72 = .ok (.iload_n 3, 1) := by decide +kernel
theorem dX5_leave_73 : decode cX5_leave 73 = .ok (.ireturn, 1) := by decide +kernel
theorem dX5_leave_74 : decode cX5_leave 74 = .ok (.iinc 4 1, 3) := by decide +kernel
theorem dX5_leave_77 : decode cX5_leave 77 = .ok (.goto (-33), 3) := by decide +kernel
theorem dX5_leave_80 : decode cX5_leave 80 = .ok (.aload_n 0, 1) := by decide +kernel
theorem dX5_leave_81 : decode cX5_leave 81 = .ok (.aload_n 1, 1) := by decide +kernel
theorem dX5_leave_82 : decode cX5_leave 82 = .ok (.iload_n 3, 1) := by decide +kernel
theorem dX5_leave_83 : decode cX5_leave 83 = .ok (.invokevirtual 67, 3) := by decide +kernel
theorem dX5_leave_86 : decode cX5_leave 86 = .ok (.iinc 3 1, 3) := by decide +kernel
theorem dX5_leave_89 : decode cX5_leave 89 = .ok (.goto (-60), 3) := by decide +kernel
theorem dX5_leave_92 : decode cX5_leave 92 = .ok (.iconst (-1), 1) := by decide +kernel
theorem dX5_leave_93 : decode cX5_leave 93 = .ok (.ireturn, 1) := by decide +kernel
theorem b_X5_leave_0 {i : Nat} {j : Nat} {x2 : Int} {σ : St} {Q : Res → St → Prop} (h : (0 ≤ x2 ∧ x2 < 1024) ∧ ((((σ 31 j x2.toNat) ≠ (σ 10 j 12)) → (WP mX5_seed 0 [vR 6 i, vR 2 j, vI x2, vU] [] σ (CT mX5_leave 27 [vR 6 i, vR 2 j, vI x2, vU, vU] [] Q))) ∧ (((σ 31 j x2.toNat) = (σ 10 j 12)) → (Q (.inl (some (vI (-1)))) σ)))) : WP mX5_leave 0 [vR 6 i, vR 2 j, vI x2, vU, vU] [] σ Q := by
  refine wp_aload_n dX5_leave_0 rfl rfl ?_
  refine wp_getR dX5_leave_1 fl_CustomValley_Search_49 rfl rfl ?_
  refine wp_getR dX5_leave_4 fl_CustomValley_Search_53 rfl rfl ?_
  refine wp_iload_n dX5_leave_7 rfl rfl ?_
  have s1 := h.1
  replace h := h.2
  refine wp_iaload dX5_leave_8 rfl rfl s1.1 s1.2 ?_
  refine wp_aload_n dX5_leave_9 rfl rfl ?_
  refine wp_getR dX5_leave_10 fl_CustomValley_Search_21 rfl rfl ?_
  refine wp_getI dX5_leave_13 fl_CustomValley_Search_46 rfl rfl rfl ?_
  refine wp_icmp_ne (tgt := 21) dX5_leave_16 (by decide) (fun hc => ?_) (fun hc => ?_)
  · replace h := h.1 hc
    refine wp_aload_n dX5_leave_21 rfl rfl ?_
    refine wp_aload_n dX5_leave_22 rfl rfl ?_
    refine wp_iload_n dX5_leave_23 rfl rfl ?_
    refine wp_invV (N := mX5_seed) [vR 2 j, vI x2] dX5_leave_24 ml_CustomValley_Search_42 mvX5_seed rfl rfl rfl rfl rfl (Nat.le_of_ble_eq_true rfl) (Nat.le_of_ble_eq_true rfl) (by decide) (by decide) (by decide) ?_
    exact h
  · replace h := h.2 hc
    refine wp_iconst dX5_leave_19 rfl ?_
    exact wp_iret dX5_leave_20 rfl h
theorem b_X5_leave_27 {i : Nat} {j : Nat} {x2 : Int} {σ : St} {Q : Res → St → Prop} (h : WP mX5_leave 29 [vR 6 i, vR 2 j, vI x2, vI 0, vU] [] σ Q) : WP mX5_leave 27 [vR 6 i, vR 2 j, vI x2, vU, vU] [] σ Q := by
  refine wp_iconst dX5_leave_27 rfl ?_
  refine wp_istore_n dX5_leave_28 rfl (by decide) rfl rfl ?_
  exact h
theorem b_X5_leave_29 {i : Nat} {j : Nat} {x2 : Int} {x3 : Int} {σ : St} {Q : Res → St → Prop} (h : ((30 < x3) → (Q (.inl (some (vI (-1)))) σ)) ∧ ((x3 ≤ 30) → (WP mX5_collect 0 [vR 6 i, vR 2 j, vI x3, vU, vU] [] σ (CT mX5_leave 41 [vR 6 i, vR 2 j, vI x2, vI x3, vU] [] Q)))) : WP mX5_leave 29 [vR 6 i, vR 2 j, vI x2, vI x3, vU] [] σ Q := by
  refine wp_iload_n dX5_leave_29 rfl rfl ?_
  refine wp_bipush dX5_leave_30 rfl ?_
  refine wp_icmp_gt (tgt := 92) dX5_leave_32 (by decide) (fun hc => ?_) (fun hc => ?_)
  · replace h := h.1 hc
    refine wp_iconst dX5_leave_92 rfl ?_
    exact wp_iret dX5_leave_93 rfl h
  · replace h := h.2 hc
    refine wp_aload_n dX5_leave_35 rfl rfl ?_
    refine wp_aload_n dX5_leave_36 rfl rfl ?_
    refine wp_iload_n dX5_leave_37 rfl rfl ?_
    refine wp_invV (N := mX5_collect) [vR 2 j, vI x3] dX5_leave_38 ml_CustomValley_Search_58 mvX5_collect rfl rfl rfl rfl rfl (Nat.le_of_ble_eq_true rfl) (Nat.le_of_ble_eq_true rfl) (by decide) (by decide) (by decide) ?_
    exact h
theorem b_X5_leave_41 {i : Nat} {j : Nat} {x2 : Int} {x3 : Int} {σ : St} {Q : Res → St → Prop} (h : WP mX5_leave 44 [vR 6 i, vR 2 j, vI x2, vI x3, vI 0] [] σ Q) : WP mX5_leave 41 [vR 6 i, vR 2 j, vI x2, vI x3, vU] [] σ Q := by
  refine wp_iconst dX5_leave_41 rfl ?_
  refine wp_istore dX5_leave_42 (by decide) rfl rfl ?_
  exact h
theorem b_X5_leave_44 {i : Nat} {j : Nat} {x2 : Int} {x3 : Int} {x4 : Int} {σ : St} {Q : Res → St → Prop} (h : (((σ 6 i 3) ≤ x4) → (WP mX5_settleForth 0 [vR 6 i, vR 2 j, vI x3, vU] [] σ (CT mX5_leave 86 [vR 6 i, vR 2 j, vI x2, vI x3, vU] [] Q))) ∧ ((x4 < (σ 6 i 3)) → ((0 ≤ x4 ∧ x4 < 1024) ∧ ((0 ≤ σ 39 i x4.toNat ∧ (σ 39 i x4.toNat) < 1024) ∧ ((((σ 28 j ((σ 39 i x4.toNat).toNat)) = x2) → ((in32 (x4 + 1)) ∧ (WP mX5_leave 44 [vR 6 i, vR 2 j, vI x2, vI x3, vI (x4 + 1)] [] σ Q))) ∧ (((σ 28 j ((σ 39 i x4.toNat).toNat)) ≠ x2) → (Q (.inl (some (vI x3))) σ))))))) : WP mX5_leave 44 [vR 6 i, vR 2 j, vI x2, vI x3, vI x4] [] σ Q := by
  refine wp_iload dX5_leave_44 rfl ?_
  refine wp_aload_n dX5_leave_46 rfl rfl ?_
  refine wp_getI dX5_leave_47 fl_CustomValley_Search_61 rfl rfl rfl ?_
  refine wp_icmp_ge (tgt := 80) dX5_leave_50 (by decide) (fun hc => ?_) (fun hc => ?_)
  · replace h := h.1 hc
    refine wp_aload_n dX5_leave_80 rfl rfl ?_
    refine wp_aload_n dX5_leave_81 rfl rfl ?_
    refine wp_iload_n dX5_leave_82 rfl rfl ?_
    refine wp_invV (N := mX5_settleForth) [vR 2 j, vI x3] dX5_leave_83 ml_CustomValley_Search_67 mvX5_settleForth rfl rfl rfl rfl rfl (Nat.le_of_ble_eq_true rfl) (Nat.le_of_ble_eq_true rfl) (by decide) (by decide) (by decide) ?_
    exact WP.mono h (ct_drop (lle_c (Or.inl rfl) (lle_c (Or.inl rfl) (lle_c (Or.inl rfl) (lle_c (Or.inl rfl) (lle_c (Or.inr rfl) lle_n))))))
  · replace h := h.2 hc
    refine wp_aload_n dX5_leave_53 rfl rfl ?_
    refine wp_getR dX5_leave_54 fl_CustomValley_Search_49 rfl rfl ?_
    refine wp_getR dX5_leave_57 fl_CustomValley_Search_64 rfl rfl ?_
    refine wp_aload_n dX5_leave_60 rfl rfl ?_
    refine wp_getR dX5_leave_61 fl_CustomValley_Search_18 rfl rfl ?_
    refine wp_iload dX5_leave_64 rfl ?_
    have s3 := h.1
    replace h := h.2
    refine wp_iaload dX5_leave_66 rfl rfl s3.1 s3.2 ?_
    have s2 := h.1
    replace h := h.2
    refine wp_iaload dX5_leave_67 rfl rfl s2.1 s2.2 ?_
    refine wp_iload_n dX5_leave_68 rfl rfl ?_
    refine wp_icmp_eq (tgt := 74) dX5_leave_69 (by decide) (fun hc => ?_) (fun hc => ?_)
    · replace h := h.1 hc
      have s1 := h.1
      replace h := h.2
      refine wp_iinc dX5_leave_74 rfl (by decide) rfl rfl ?_ (h1 := s1.1) (h2 := s1.2)
      refine wp_goto (tgt := 44) dX5_leave_77 (by decide) ?_
      exact h
    · replace h := h.2 hc
      refine wp_iload_n dX5_leave_72 rfl rfl ?_
      exact wp_iret dX5_leave_73 rfl h
theorem b_X5_leave_86 {i : Nat} {j : Nat} {x2 : Int} {x3 : Int} {σ : St} {Q : Res → St → Prop} (h : (in32 (x3 + 1)) ∧ (WP mX5_leave 29 [vR 6 i, vR 2 j, vI x2, vI (x3 + 1), vU] [] σ Q)) : WP mX5_leave 86 [vR 6 i, vR 2 j, vI x2, vI x3, vU] [] σ Q := by
  have s1 := h.1
  replace h := h.2
  refine wp_iinc dX5_leave_86 rfl (by decide) rfl rfl ?_ (h1 := s1.1) (h2 := s1.2)
  refine wp_goto (tgt := 29) dX5_leave_89 (by decide) ?_
  exact h
theorem dX5_toRest_0 : decode cX5_toRest 0 = .ok (.aload_n 0, 1) := by decide +kernel
theorem dX5_toRest_1 : decode cX5_toRest 1 = .ok (.aload_n 1, 1) := by decide +kernel
theorem dX5_toRest_2 : decode cX5_toRest 2 = .ok (.iload_n 2, 1) := by decide +kernel
theorem dX5_toRest_3 : decode cX5_toRest 3 = .ok (.invokevirtual 42, 3) := by decide +kernel
theorem dX5_toRest_6 : decode cX5_toRest 6 = .ok (.aload_n 1, 1) := by decide +kernel
theorem dX5_toRest_7 : decode cX5_toRest 7 = .ok (.getfield 21, 3) := by decide +kernel
theorem dX5_toRest_10 : decode cX5_toRest 10 = .ok (.getfield 46, 3) := by decide +kernel
theorem dX5_toRest_13 : decode cX5_toRest 13 = .ok (.istore_n 3, 1) := by decide +kernel
theorem dX5_toRest_14 : decode cX5_toRest 14 = .ok (.iconst 0, 1) := by decide +kernel
theorem dX5_toRest_15 : decode cX5_toRest 15 = .ok (.istore 4, 2) := by decide +kernel
theorem dX5_toRest_17 : decode cX5_toRest 17 = .ok (.iload 4, 2) := by decide +kernel
theorem dX5_toRest_19 : decode cX5_toRest 19 = .ok (.bipush 30, 2) := by decide +kernel
theorem dX5_toRest_21 : decode cX5_toRest 21 = .ok (.if_icmp .gt 23, 3) := by decide +kernel
theorem dX5_toRest_24 : decode cX5_toRest 24 = .ok (.iload_n 3, 1) := by decide +kernel
theorem dX5_toRest_25 : decode cX5_toRest 25 = .ok (.ifCond .le 19, 3) := by decide +kernel
theorem dX5_toRest_28 : decode cX5_toRest 28 = .ok (.iload_n 3, 1) := by decide +kernel
theorem dX5_toRest_29 : decode cX5_toRest 29 = .ok (.aload_n 0, 1) := by decide +kernel
theorem dX5_toRest_30 : decode cX5_toRest 30 = .ok (.aload_n 1, 1) := by decide +kernel
theorem dX5_toRest_31 : decode cX5_toRest 31 = .ok (.iload 4, 2) := by decide +kernel
theorem dX5_toRest_33 : decode cX5_toRest 33 = .ok (.invokevirtual 38, 3) := by decide +kernel
theorem dX5_toRest_36 : decode cX5_toRest 36 = .ok (.isub, 1) := by decide +kernel
theorem dX5_toRest_37 : decode cX5_toRest 37 = .ok (.istore_n 3, 1) := by decide +kernel
theorem dX5_toRest_38 : decode cX5_toRest 38 = .ok (.iinc 4 1, 3) := by decide +kernel
theorem dX5_toRest_41 : decode cX5_toRest 41 = .ok (.goto (-24), 3) := by decide +kernel
theorem dX5_toRest_44 : decode cX5_toRest 44 = .ok (.return_, 1) := by decide +kernel
theorem b_X5_toRest_0 {i : Nat} {j : Nat} {x2 : Int} {σ : St} {Q : Res → St → Prop} (h : WP mX5_seed 0 [vR 6 i, vR 2 j, vI x2, vU] [] σ (CT mX5_toRest 6 [vR 6 i, vR 2 j, vU, vU, vU] [] Q)) : WP mX5_toRest 0 [vR 6 i, vR 2 j, vI x2, vU, vU] [] σ Q := by
  refine wp_aload_n dX5_toRest_0 rfl rfl ?_
  refine wp_aload_n dX5_toRest_1 rfl rfl ?_
  refine wp_iload_n dX5_toRest_2 rfl rfl ?_
  refine wp_invV (N := mX5_seed) [vR 2 j, vI x2] dX5_toRest_3 ml_CustomValley_Search_42 mvX5_seed rfl rfl rfl rfl rfl (Nat.le_of_ble_eq_true rfl) (Nat.le_of_ble_eq_true rfl) (by decide) (by decide) (by decide) ?_
  exact WP.mono h (ct_drop (lle_c (Or.inl rfl) (lle_c (Or.inl rfl) (lle_c (Or.inr rfl) (lle_c (Or.inl rfl) (lle_c (Or.inl rfl) lle_n))))))
theorem b_X5_toRest_6 {i : Nat} {j : Nat} {σ : St} {Q : Res → St → Prop} (h : WP mX5_toRest 17 [vR 6 i, vR 2 j, vU, vI (σ 10 j 12), vI 0] [] σ Q) : WP mX5_toRest 6 [vR 6 i, vR 2 j, vU, vU, vU] [] σ Q := by
  refine wp_aload_n dX5_toRest_6 rfl rfl ?_
  refine wp_getR dX5_toRest_7 fl_CustomValley_Search_21 rfl rfl ?_
  refine wp_getI dX5_toRest_10 fl_CustomValley_Search_46 rfl rfl rfl ?_
  refine wp_istore_n dX5_toRest_13 rfl (by decide) rfl rfl ?_
  refine wp_iconst dX5_toRest_14 rfl ?_
  refine wp_istore dX5_toRest_15 (by decide) rfl rfl ?_
  exact h
theorem b_X5_toRest_17 {i : Nat} {j : Nat} {x3 : Int} {x4 : Int} {σ : St} {Q : Res → St → Prop} (h : ((30 < x4) → (Q (.inl none) σ)) ∧ ((x4 ≤ 30) → (((x3 ≤ 0) → (Q (.inl none) σ)) ∧ ((0 < x3) → (WP mX5_settleBack 0 [vR 6 i, vR 2 j, vI x4, vU] [] σ (CT mX5_toRest 36 [vR 6 i, vR 2 j, vU, vU, vI x4] [vI x3] Q)))))) : WP mX5_toRest 17 [vR 6 i, vR 2 j, vU, vI x3, vI x4] [] σ Q := by
  refine wp_iload dX5_toRest_17 rfl ?_
  refine wp_bipush dX5_toRest_19 rfl ?_
  refine wp_icmp_gt (tgt := 44) dX5_toRest_21 (by decide) (fun hc => ?_) (fun hc => ?_)
  · replace h := h.1 hc
    exact wp_ret dX5_toRest_44 rfl h
  · replace h := h.2 hc
    refine wp_iload_n dX5_toRest_24 rfl rfl ?_
    refine wp_if_le (tgt := 44) dX5_toRest_25 (by decide) (fun hc => ?_) (fun hc => ?_)
    · replace h := h.1 hc
      exact wp_ret dX5_toRest_44 rfl h
    · replace h := h.2 hc
      refine wp_iload_n dX5_toRest_28 rfl rfl ?_
      refine wp_aload_n dX5_toRest_29 rfl rfl ?_
      refine wp_aload_n dX5_toRest_30 rfl rfl ?_
      refine wp_iload dX5_toRest_31 rfl ?_
      refine wp_invV (N := mX5_settleBack) [vR 2 j, vI x4] dX5_toRest_33 ml_CustomValley_Search_38 mvX5_settleBack rfl rfl rfl rfl rfl (Nat.le_of_ble_eq_true rfl) (Nat.le_of_ble_eq_true rfl) (by decide) (by decide) (by decide) ?_
      exact WP.mono h (ct_drop (lle_c (Or.inl rfl) (lle_c (Or.inl rfl) (lle_c (Or.inl rfl) (lle_c (Or.inr rfl) (lle_c (Or.inl rfl) lle_n))))))
theorem b_X5_toRest_36 {i : Nat} {j : Nat} {x4 : Int} {t0 : Int} {t1 : Int} {σ : St} {Q : Res → St → Prop} (h : (in32 (t1 - t0)) ∧ ((in32 (x4 + 1)) ∧ (WP mX5_toRest 17 [vR 6 i, vR 2 j, vU, vI (t1 - t0), vI (x4 + 1)] [] σ Q))) : WP mX5_toRest 36 [vR 6 i, vR 2 j, vU, vU, vI x4] [vI t0, vI t1] σ Q := by
  have s2 := h.1
  replace h := h.2
  refine wp_isub dX5_toRest_36 ?_ (h1 := s2.1) (h2 := s2.2)
  refine wp_istore_n dX5_toRest_37 rfl (by decide) rfl rfl ?_
  have s1 := h.1
  replace h := h.2
  refine wp_iinc dX5_toRest_38 rfl (by decide) rfl rfl ?_ (h1 := s1.1) (h2 := s1.2)
  refine wp_goto (tgt := 17) dX5_toRest_41 (by decide) ?_
  exact h
theorem dX5_toState_0 : decode cX5_toState 0 = .ok (.aload_n 0, 1) := by decide +kernel
theorem dX5_toState_1 : decode cX5_toState 1 = .ok (.getfield 9, 3) := by decide +kernel
theorem dX5_toState_4 : decode cX5_toState 4 = .ok (.aload_n 1, 1) := by decide +kernel
theorem dX5_toState_5 : decode cX5_toState 5 = .ok (.getfield 21, 3) := by decide +kernel
theorem dX5_toState_8 : decode cX5_toState 8 = .ok (.getfield 27, 3) := by decide +kernel
theorem dX5_toState_11 : decode cX5_toState 11 = .ok (.ldc 33, 2) := by decide +kernel
theorem dX5_toState_13 : decode cX5_toState 13 = .ok (.invokestatic 34, 3) := by decide +kernel
theorem dX5_toState_16 : decode cX5_toState 16 = .ok (.aload_n 0, 1) := by decide +kernel
theorem dX5_toState_17 : decode cX5_toState 17 = .ok (.getfield 9, 3) := by decide +kernel
theorem dX5_toState_20 : decode cX5_toState 20 = .ok (.iload_n 2, 1) := by decide +kernel
theorem dX5_toState_21 : decode cX5_toState 21 = .ok (.iconst 0, 1) := by decide +kernel
theorem dX5_toState_22 : decode cX5_toState 22 = .ok (.iastore, 1) := by decide +kernel
theorem dX5_toState_23 : decode cX5_toState 23 = .ok (.iconst 0, 1) := by decide +kernel
theorem dX5_toState_24 : decode cX5_toState 24 = .ok (.istore 4, 2) := by decide +kernel
theorem dX5_toState_26 : decode cX5_toState 26 = .ok (.iload 4, 2) := by decide +kernel
theorem dX5_toState_28 : decode cX5_toState 28 = .ok (.bipush 30, 2) := by decide +kernel
theorem dX5_toState_30 : decode cX5_toState 30 = .ok (.if_icmp .gt 28, 3) := by decide +kernel
theorem dX5_toState_33 : decode cX5_toState 33 = .ok (.aload_n 0, 1) := by decide +kernel
theorem dX5_toState_34 : decode cX5_toState 34 = .ok (.getfield 9, 3) := by decide +kernel
theorem dX5_toState_37 : decode cX5_toState 37 = .ok (.iload_n 3, 1) := by decide +kernel
theorem dX5_toState_38 : decode cX5_toState 38 = .ok (.iaload, 1) := by decide +kernel
theorem dX5_toState_39 : decode cX5_toState 39 = .ok (.iload 4, 2) := by decide +kernel
theorem dX5_toState_41 : decode cX5_toState 41 = .ok (.if_icmp .lt 17, 3) := by decide +kernel
theorem dX5_toState_44 : decode cX5_toState 44 = .ok (.aload_n 0, 1) := by decide +kernel
theorem dX5_toState_45 : decode cX5_toState 45 = .ok (.aload_n 1, 1) := by decide +kernel
theorem dX5_toState_46 : decode cX5_toState 46 = .ok (.iload 4, 2) := by decide +kernel
theorem dX5_toState_48 : decode cX5_toState 48 = .ok (.invokevirtual 38, 3) := by decide +kernel
theorem dX5_toState_51 : decode cX5_toState 51 = .ok (.pop, 1) := by decide +kernel
theorem dX5_toState_52 : decode cX5_toState 52 = .ok (.iinc 4 1, 3) := by decide +kernel
theorem dX5_toState_55 : decode cX5_toState 55 = .ok (.goto (-29), 3) := by decide +kernel
theorem dX5_toState_58 : decode cX5_toState 58 = .ok (.aload_n 0, 1) := by decide +kernel
theorem dX5_toState_59 : decode cX5_toState 59 = .ok (.getfield 9, 3) := by decide +kernel
theorem dX5_toState_62 : decode cX5_toState 62 = .ok (.iload_n 3, 1) := by decide +kernel
theorem dX5_toState_63 : decode cX5_toState 63 = .ok (.iaload, 1) := by decide +kernel
theorem dX5_toState_64 : decode cX5_toState 64 = .ok (.ireturn, 1) := by decide +kernel
theorem b_X5_toState_0 {i : Nat} {j : Nat} {x2 : Int} {x3 : Int} {σ : St} {Q : Res → St → Prop} (h : WP mX11_fillTo 0 [vR 37 i, vI (σ 10 j 11), vI 1000000, vU] [] σ (CT mX5_toState 16 [vR 6 i, vR 2 j, vI x2, vI x3, vU] [] Q)) : WP mX5_toState 0 [vR 6 i, vR 2 j, vI x2, vI x3, vU] [] σ Q := by
  refine wp_aload_n dX5_toState_0 rfl rfl ?_
  refine wp_getR dX5_toState_1 fl_CustomValley_Search_9 rfl rfl ?_
  refine wp_aload_n dX5_toState_4 rfl rfl ?_
  refine wp_getR dX5_toState_5 fl_CustomValley_Search_21 rfl rfl ?_
  refine wp_getI dX5_toState_8 fl_CustomValley_Search_27 rfl rfl rfl ?_
  refine wp_ldc (n := 1000000) dX5_toState_11 ck_CustomValley_Search_33 rfl ?_
  refine wp_invN (N := mX11_fillTo) [vR 37 i, vI (σ 10 j 11), vI 1000000] dX5_toState_13 mn_CustomValley_Search_34 mvX11_fillTo rfl rfl rfl (Nat.le_of_ble_eq_true rfl) (Nat.le_of_ble_eq_true rfl) (by decide) (by decide) ?_
  exact h
theorem b_X5_toState_16 {i : Nat} {j : Nat} {x2 : Int} {x3 : Int} {σ : St} {Q : Res → St → Prop} (h : (0 ≤ x2 ∧ x2 < 1024) ∧ (WP mX5_toState 26 [vR 6 i, vR 2 j, vU, vI x3, vI 0] [] (up σ 37 i x2.toNat 0) Q)) : WP mX5_toState 16 [vR 6 i, vR 2 j, vI x2, vI x3, vU] [] σ Q := by
  refine wp_aload_n dX5_toState_16 rfl rfl ?_
  refine wp_getR dX5_toState_17 fl_CustomValley_Search_9 rfl rfl ?_
  refine wp_iload_n dX5_toState_20 rfl rfl ?_
  refine wp_iconst dX5_toState_21 rfl ?_
  have s1 := h.1
  replace h := h.2
  refine wp_iastore dX5_toState_22 rfl rfl s1.1 s1.2 ?_
  refine wp_iconst dX5_toState_23 rfl ?_
  refine wp_istore dX5_toState_24 (by decide) rfl rfl ?_
  exact wp_drop (als' := [vR 6 i, vR 2 j, vU, vI x3, vI 0]) (lle_c (Or.inl rfl) (lle_c (Or.inl rfl) (lle_c (Or.inr rfl) (lle_c (Or.inl rfl) (lle_c (Or.inl rfl) lle_n))))) h
theorem b_X5_toState_26 {i : Nat} {j : Nat} {x3 : Int} {x4 : Int} {σ : St} {Q : Res → St → Prop} (h : ((30 < x4) → ((0 ≤ x3 ∧ x3 < 1024) ∧ (Q (.inl (some (vI (σ 37 i x3.toNat)))) σ))) ∧ ((x4 ≤ 30) → ((0 ≤ x3 ∧ x3 < 1024) ∧ ((((σ 37 i x3.toNat) < x4) → ((0 ≤ x3 ∧ x3 < 1024) ∧ (Q (.inl (some (vI (σ 37 i x3.toNat)))) σ))) ∧ ((x4 ≤ (σ 37 i x3.toNat)) → (WP mX5_settleBack 0 [vR 6 i, vR 2 j, vI x4, vU] [] σ (CT mX5_toState 51 [vR 6 i, vR 2 j, vU, vI x3, vI x4] [] Q))))))) : WP mX5_toState 26 [vR 6 i, vR 2 j, vU, vI x3, vI x4] [] σ Q := by
  refine wp_iload dX5_toState_26 rfl ?_
  refine wp_bipush dX5_toState_28 rfl ?_
  refine wp_icmp_gt (tgt := 58) dX5_toState_30 (by decide) (fun hc => ?_) (fun hc => ?_)
  · replace h := h.1 hc
    refine wp_aload_n dX5_toState_58 rfl rfl ?_
    refine wp_getR dX5_toState_59 fl_CustomValley_Search_9 rfl rfl ?_
    refine wp_iload_n dX5_toState_62 rfl rfl ?_
    have s1 := h.1
    replace h := h.2
    refine wp_iaload dX5_toState_63 rfl rfl s1.1 s1.2 ?_
    exact wp_iret dX5_toState_64 rfl h
  · replace h := h.2 hc
    refine wp_aload_n dX5_toState_33 rfl rfl ?_
    refine wp_getR dX5_toState_34 fl_CustomValley_Search_9 rfl rfl ?_
    refine wp_iload_n dX5_toState_37 rfl rfl ?_
    have s3 := h.1
    replace h := h.2
    refine wp_iaload dX5_toState_38 rfl rfl s3.1 s3.2 ?_
    refine wp_iload dX5_toState_39 rfl ?_
    refine wp_icmp_lt (tgt := 58) dX5_toState_41 (by decide) (fun hc => ?_) (fun hc => ?_)
    · replace h := h.1 hc
      refine wp_aload_n dX5_toState_58 rfl rfl ?_
      refine wp_getR dX5_toState_59 fl_CustomValley_Search_9 rfl rfl ?_
      refine wp_iload_n dX5_toState_62 rfl rfl ?_
      have s2 := h.1
      replace h := h.2
      refine wp_iaload dX5_toState_63 rfl rfl s2.1 s2.2 ?_
      exact wp_iret dX5_toState_64 rfl h
    · replace h := h.2 hc
      refine wp_aload_n dX5_toState_44 rfl rfl ?_
      refine wp_aload_n dX5_toState_45 rfl rfl ?_
      refine wp_iload dX5_toState_46 rfl ?_
      refine wp_invV (N := mX5_settleBack) [vR 2 j, vI x4] dX5_toState_48 ml_CustomValley_Search_38 mvX5_settleBack rfl rfl rfl rfl rfl (Nat.le_of_ble_eq_true rfl) (Nat.le_of_ble_eq_true rfl) (by decide) (by decide) (by decide) ?_
      exact h
theorem b_X5_toState_51 {i : Nat} {j : Nat} {x3 : Int} {x4 : Int} {t0 : Int} {σ : St} {Q : Res → St → Prop} (h : (in32 (x4 + 1)) ∧ (WP mX5_toState 26 [vR 6 i, vR 2 j, vU, vI x3, vI (x4 + 1)] [] σ Q)) : WP mX5_toState 51 [vR 6 i, vR 2 j, vU, vI x3, vI x4] [vI t0] σ Q := by
  refine wp_pop dX5_toState_51 ?_
  have s1 := h.1
  replace h := h.2
  refine wp_iinc dX5_toState_52 rfl (by decide) rfl rfl ?_ (h1 := s1.1) (h2 := s1.2)
  refine wp_goto (tgt := 26) dX5_toState_55 (by decide) ?_
  exact h
