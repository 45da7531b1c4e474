theorem dX1_beside_0 : decode cX1_beside 0 = .ok (.aload_n 0, 1) := by decide +kernel
theorem dX1_beside_1 : decode cX1_beside 1 = .ok (.getfield 12, 3) := by decide +kernel
theorem dX1_beside_4 : decode cX1_beside 4 = .ok (.getfield 75, 3) := by decide +kernel
theorem dX1_beside_7 : decode cX1_beside 7 = .ok (.iload_n 2, 1) := by decide +kernel
theorem dX1_beside_8 : decode cX1_beside 8 = .ok (.iaload, 1) := by decide +kernel
theorem dX1_beside_9 : decode cX1_beside 9 = .ok (.istore_n 3, 1) := by decide +kernel
theorem dX1_beside_10 : decode cX1_beside 10 = .ok (.aload_n 0, 1) := by decide +kernel
theorem dX1_beside_11 : decode cX1_beside 11 = .ok (.getfield 21, 3) := by decide +kernel
theorem dX1_beside_14 : decode cX1_beside 14 = .ok (.getfield 78, 3) := by decide +kernel
theorem dX1_beside_17 : decode cX1_beside 17 = .ok (.iload_n 1, 1) := by decide +kernel
theorem dX1_beside_18 : decode cX1_beside 18 = .ok (.bipush 10, 2) := by decide +kernel
theorem dX1_beside_20 : decode cX1_beside 20 = .ok (.imul, 1) := by decide +kernel
theorem dX1_beside_21 : decode cX1_beside 21 = .ok (.iload_n 3, 1) := by decide +kernel
theorem dX1_beside_22 : decode cX1_beside 22 = .ok (.iadd, 1) := by decide +kernel
theorem dX1_beside_23 : decode cX1_beside 23 = .ok (.baload, 1) := by decide +kernel
theorem dX1_beside_24 : decode cX1_beside 24 = .ok (.iconst 4, 1) := by decide +kernel
theorem dX1_beside_25 : decode cX1_beside 25 = .ok (.ishr, 1) := by decide +kernel
theorem dX1_beside_26 : decode cX1_beside 26 = .ok (.istore 4, 2) := by decide +kernel
theorem dX1_beside_28 : decode cX1_beside 28 = .ok (.iload_n 1, 1) := by decide +kernel
theorem dX1_beside_29 : decode cX1_beside 29 = .ok (.aload_n 0, 1) := by decide +kernel
theorem dX1_beside_30 : decode cX1_beside 30 = .ok (.getfield 12, 3) := by decide +kernel
theorem dX1_beside_33 : decode cX1_beside 33 = .ok (.getfield 82, 3) := by decide +kernel
theorem dX1_beside_36 : decode cX1_beside 36 = .ok (.iload_n 2, 1) := by decide +kernel
theorem dX1_beside_37 : decode cX1_beside 37 = .ok (.iaload, 1) := by decide +kernel
theorem dX1_beside_38 : decode cX1_beside 38 = .ok (.iload 4, 2) := by decide +kernel
theorem dX1_beside_40 : decode cX1_beside 40 = .ok (.isub, 1) := by decide +kernel
theorem dX1_beside_41 : decode cX1_beside 41 = .ok (.aload_n 0, 1) := by decide +kernel
theorem dX1_beside_42 : decode cX1_beside 42 = .ok (.getfield 12, 3) := by decide +kernel
theorem dX1_beside_45 : decode cX1_beside 45 = .ok (.getfield 85, 3) := by decide +kernel
theorem dX1_beside_48 : decode cX1_beside 48 = .ok (.iload_n 3, 1) := by decide +kernel
theorem dX1_beside_49 : decode cX1_beside 49 = .ok (.iaload, 1) := by decide +kernel
theorem dX1_beside_50 : decode cX1_beside 50 = .ok (.imul, 1) := by decide +kernel
theorem dX1_beside_51 : decode cX1_beside 51 = .ok (.iadd, 1) := by decide +kernel
theorem dX1_beside_52 : decode cX1_beside 52 = .ok (.ireturn, 1) := by decide +kernel
theorem b_X1_beside_0 {i : Nat} {x1 : Int} {x2 : Int} {σ : St} {Q : Res → St → Prop} (h : (0 ≤ x2 ∧ x2 < 40) ∧ ((in32 (x1 * 10)) ∧ ((in32 ((x1 * 10) + (σ 58 i x2.toNat))) ∧ ((0 ≤ (x1 * 10) + (σ 58 i x2.toNat) ∧ ((x1 * 10) + (σ 58 i x2.toNat)) < 10240) ∧ ((0 ≤ x2 ∧ x2 < 40) ∧ ((in32 ((σ 59 i x2.toNat) - (shr (σ 23 i (((x1 * 10) + (σ 58 i x2.toNat)).toNat)) 4))) ∧ ((0 ≤ σ 58 i x2.toNat ∧ (σ 58 i x2.toNat) < 11) ∧ ((in32 (((σ 59 i x2.toNat) - (shr (σ 23 i (((x1 * 10) + (σ 58 i x2.toNat)).toNat)) 4)) * (σ 60 i ((σ 58 i x2.toNat).toNat)))) ∧ ((in32 (x1 + (((σ 59 i x2.toNat) - (shr (σ 23 i (((x1 * 10) + (σ 58 i x2.toNat)).toNat)) 4)) * (σ 60 i ((σ 58 i x2.toNat).toNat))))) ∧ (Q (.inl (some (vI (x1 + (((σ 59 i x2.toNat) - (shr (σ 23 i (((x1 * 10) + (σ 58 i x2.toNat)).toNat)) 4)) * (σ 60 i ((σ 58 i x2.toNat).toNat))))))) σ)))))))))) : WP mX1_beside 0 [vR 2 i, vI x1, vI x2, vU, vU] [] σ Q := by
  refine wp_aload_n dX1_beside_0 rfl rfl ?_
  refine wp_getR dX1_beside_1 fl_CustomValley_Land_12 rfl rfl ?_
  refine wp_getR dX1_beside_4 fl_CustomValley_Land_75 rfl rfl ?_
  refine wp_iload_n dX1_beside_7 rfl rfl ?_
  have s9 := h.1
  replace h := h.2
  refine wp_iaload dX1_beside_8 rfl rfl s9.1 s9.2 ?_
  refine wp_istore_n dX1_beside_9 rfl (by decide) rfl rfl ?_
  refine wp_aload_n dX1_beside_10 rfl rfl ?_
  refine wp_getR dX1_beside_11 fl_CustomValley_Land_21 rfl rfl ?_
  refine wp_getR dX1_beside_14 fl_CustomValley_Land_78 rfl rfl ?_
  refine wp_iload_n dX1_beside_17 rfl rfl ?_
  refine wp_bipush dX1_beside_18 rfl ?_
  have s8 := h.1
  replace h := h.2
  refine wp_imul dX1_beside_20 ?_ (h1 := s8.1) (h2 := s8.2)
  refine wp_iload_n dX1_beside_21 rfl rfl ?_
  have s7 := h.1
  replace h := h.2
  refine wp_iadd dX1_beside_22 ?_ (h1 := s7.1) (h2 := s7.2)
  have s6 := h.1
  replace h := h.2
  refine wp_baload dX1_beside_23 rfl rfl s6.1 s6.2 ?_
  refine wp_iconst dX1_beside_24 rfl ?_
  refine wp_ishr dX1_beside_25 ?_
  refine wp_istore dX1_beside_26 (by decide) rfl rfl ?_
  refine wp_iload_n dX1_beside_28 rfl rfl ?_
  refine wp_aload_n dX1_beside_29 rfl rfl ?_
  refine wp_getR dX1_beside_30 fl_CustomValley_Land_12 rfl rfl ?_
  refine wp_getR dX1_beside_33 fl_CustomValley_Land_82 rfl rfl ?_
  refine wp_iload_n dX1_beside_36 rfl rfl ?_
  have s5 := h.1
  replace h := h.2
  refine wp_iaload dX1_beside_37 rfl rfl s5.1 s5.2 ?_
  refine wp_iload dX1_beside_38 rfl ?_
  have s4 := h.1
  replace h := h.2
  refine wp_isub dX1_beside_40 ?_ (h1 := s4.1) (h2 := s4.2)
  refine wp_aload_n dX1_beside_41 rfl rfl ?_
  refine wp_getR dX1_beside_42 fl_CustomValley_Land_12 rfl rfl ?_
  refine wp_getR dX1_beside_45 fl_CustomValley_Land_85 rfl rfl ?_
  refine wp_iload_n dX1_beside_48 rfl rfl ?_
  have s3 := h.1
  replace h := h.2
  refine wp_iaload dX1_beside_49 rfl rfl s3.1 s3.2 ?_
  have s2 := h.1
  replace h := h.2
  refine wp_imul dX1_beside_50 ?_ (h1 := s2.1) (h2 := s2.2)
  have s1 := h.1
  replace h := h.2
  refine wp_iadd dX1_beside_51 ?_ (h1 := s1.1) (h2 := s1.2)
  exact wp_iret dX1_beside_52 rfl h
theorem pb_X1_beside {i : Nat} {x1 : Int} {x2 : Int} {σ : St} {Q : Res → St → Prop} (hs : 0 ≤ x2 ∧ x2 < 40 ∧ in32 (x1 * 10) ∧ in32 ((x1 * 10) + (σ 58 i x2.toNat)) ∧ 0 ≤ (x1 * 10) + (σ 58 i x2.toNat) ∧ ((x1 * 10) + (σ 58 i x2.toNat)) < 10240 ∧ 0 ≤ x2 ∧ x2 < 40 ∧ in32 ((σ 59 i x2.toNat) - (shr (σ 23 i (((x1 * 10) + (σ 58 i x2.toNat)).toNat)) 4)) ∧ 0 ≤ σ 58 i x2.toNat ∧ (σ 58 i x2.toNat) < 11 ∧ in32 (((σ 59 i x2.toNat) - (shr (σ 23 i (((x1 * 10) + (σ 58 i x2.toNat)).toNat)) 4)) * (σ 60 i ((σ 58 i x2.toNat).toNat))) ∧ in32 (x1 + (((σ 59 i x2.toNat) - (shr (σ 23 i (((x1 * 10) + (σ 58 i x2.toNat)).toNat)) 4)) * (σ 60 i ((σ 58 i x2.toNat).toNat))))) (h : Q (.inl (some (vI (x1 + (((σ 59 i x2.toNat) - (shr (σ 23 i (((x1 * 10) + (σ 58 i x2.toNat)).toNat)) 4)) * (σ 60 i ((σ 58 i x2.toNat).toNat))))))) σ) : WP mX1_beside 0 [vR 2 i, vI x1, vI x2, vU, vU] [] σ Q := by
  obtain ⟨h0, h1, h2, h3, h4, h5, h6, h7, h8, h9, h10, h11, h12⟩ := hs
  exact b_X1_beside_0 ⟨⟨h0, h1⟩, h2, h3, ⟨h4, h5⟩, ⟨h6, h7⟩, h8, ⟨h9, h10⟩, h11, h12, h⟩
theorem dX1_price_0 : decode cX1_price 0 = .ok (.aload_n 0, 1) := by decide +kernel
theorem dX1_price_1 : decode cX1_price 1 = .ok (.getfield 21, 3) := by decide +kernel
theorem dX1_price_4 : decode cX1_price 4 = .ok (.getfield 78, 3) := by decide +kernel
theorem dX1_price_7 : decode cX1_price 7 = .ok (.iload_n 2, 1) := by decide +kernel
theorem dX1_price_8 : decode cX1_price 8 = .ok (.bipush 10, 2) := by decide +kernel
theorem dX1_price_10 : decode cX1_price 10 = .ok (.imul, 1) := by decide +kernel
theorem dX1_price_11 : decode cX1_price 11 = .ok (.iload_n 3, 1) := by decide +kernel
theorem dX1_price_12 : decode cX1_price 12 = .ok (.iadd, 1) := by decide +kernel
theorem dX1_price_13 : decode cX1_price 13 = .ok (.baload, 1) := by decide +kernel
theorem dX1_price_14 : decode cX1_price 14 = .ok (.iconst 4, 1) := by decide +kernel
theorem dX1_price_15 : decode cX1_price 15 = .ok (.ishr, 1) := by decide +kernel
theorem dX1_price_16 : decode cX1_price 16 = .ok (.istore 4, 2) := by decide +kernel
theorem dX1_price_18 : decode cX1_price 18 = .ok (.aload_n 0, 1) := by decide +kernel
theorem dX1_price_19 : decode cX1_price 19 = .ok (.getfield 21, 3) := by decide +kernel
theorem dX1_price_22 : decode cX1_price 22 = .ok (.getfield 78, 3) := by decide +kernel
theorem dX1_price_25 : decode cX1_price 25 = .ok (.iload_n 1, 1) := by decide +kernel
theorem dX1_price_26 : decode cX1_price 26 = .ok (.bipush 10, 2) := by decide +kernel
theorem dX1_price_28 : decode cX1_price 28 = .ok (.imul, 1) := by decide +kernel
theorem dX1_price_29 : decode cX1_price 29 = .ok (.iload_n 3, 1) := by decide +kernel
theorem dX1_price_30 : decode cX1_price 30 = .ok (.iadd, 1) := by decide +kernel
theorem dX1_price_31 : decode cX1_price 31 = .ok (.baload, 1) := by decide +kernel
theorem dX1_price_32 : decode cX1_price 32 = .ok (.iload 4, 2) := by decide +kernel
theorem dX1_price_34 : decode cX1_price 34 = .ok (.ishr, 1) := by decide +kernel
theorem dX1_price_35 : decode cX1_price 35 = .ok (.iconst 1, 1) := by decide +kernel
theorem dX1_price_36 : decode cX1_price 36 = .ok (.iand, 1) := by decide +kernel
theorem dX1_price_37 : decode cX1_price 37 = .ok (.ifCond .eq 7, 3) := by decide +kernel
theorem dX1_price_40 : decode cX1_price 40 = .ok (.iconst 0, 1) := by decide +kernel
theorem dX1_price_41 : decode cX1_price 41 = .ok (.goto 13, 3) := by decide +kernel
theorem dX1_price_44 : decode cX1_price 44 = .ok (.aload_n 0, 1) := by decide +kernel
theorem dX1_price_45 : decode cX1_price 45 = .ok (.getfield 12, 3) := by decide +kernel
theorem dX1_price_48 : decode cX1_price 48 = .ok (.getfield 88, 3) := by decide +kernel
theorem dX1_price_51 : decode cX1_price 51 = .ok (.iload 4, 2) := by decide +kernel
theorem dX1_price_53 : decode cX1_price 53 = .ok (.iaload, 1) := by decide +kernel
theorem dX1_price_54 : decode cX1_price 54 = .ok (.ireturn, 1) := by decide +kernel
theorem b_X1_price_0 {i : Nat} {x1 : Int} {x2 : Int} {x3 : Int} {σ : St} {Q : Res → St → Prop} (h : (in32 (x2 * 10)) ∧ ((in32 ((x2 * 10) + x3)) ∧ ((0 ≤ (x2 * 10) + x3 ∧ ((x2 * 10) + x3) < 10240) ∧ ((in32 (x1 * 10)) ∧ ((in32 ((x1 * 10) + x3)) ∧ ((0 ≤ (x1 * 10) + x3 ∧ ((x1 * 10) + x3) < 10240) ∧ ((((band (shr (σ 23 i (((x1 * 10) + x3).toNat)) (shr (σ 23 i (((x2 * 10) + x3).toNat)) 4)) 1) = 0) → ((0 ≤ shr (σ 23 i (((x2 * 10) + x3).toNat)) 4 ∧ (shr (σ 23 i (((x2 * 10) + x3).toNat)) 4) < 4) ∧ (Q (.inl (some (vI (σ 55 i ((shr (σ 23 i (((x2 * 10) + x3).toNat)) 4).toNat))))) σ))) ∧ (((band (shr (σ 23 i (((x1 * 10) + x3).toNat)) (shr (σ 23 i (((x2 * 10) + x3).toNat)) 4)) 1) ≠ 0) → (Q (.inl (some (vI 0))) σ))))))))) : WP mX1_price 0 [vR 2 i, vI x1, vI x2, vI x3, vU] [] σ Q := by
  refine wp_aload_n dX1_price_0 rfl rfl ?_
  refine wp_getR dX1_price_1 fl_CustomValley_Land_21 rfl rfl ?_
  refine wp_getR dX1_price_4 fl_CustomValley_Land_78 rfl rfl ?_
  refine wp_iload_n dX1_price_7 rfl rfl ?_
  refine wp_bipush dX1_price_8 rfl ?_
  have s7 := h.1
  replace h := h.2
  refine wp_imul dX1_price_10 ?_ (h1 := s7.1) (h2 := s7.2)
  refine wp_iload_n dX1_price_11 rfl rfl ?_
  have s6 := h.1
  replace h := h.2
  refine wp_iadd dX1_price_12 ?_ (h1 := s6.1) (h2 := s6.2)
  have s5 := h.1
  replace h := h.2
  refine wp_baload dX1_price_13 rfl rfl s5.1 s5.2 ?_
  refine wp_iconst dX1_price_14 rfl ?_
  refine wp_ishr dX1_price_15 ?_
  refine wp_istore dX1_price_16 (by decide) rfl rfl ?_
  refine wp_aload_n dX1_price_18 rfl rfl ?_
  refine wp_getR dX1_price_19 fl_CustomValley_Land_21 rfl rfl ?_
  refine wp_getR dX1_price_22 fl_CustomValley_Land_78 rfl rfl ?_
  refine wp_iload_n dX1_price_25 rfl rfl ?_
  refine wp_bipush dX1_price_26 rfl ?_
  have s4 := h.1
  replace h := h.2
  refine wp_imul dX1_price_28 ?_ (h1 := s4.1) (h2 := s4.2)
  refine wp_iload_n dX1_price_29 rfl rfl ?_
  have s3 := h.1
  replace h := h.2
  refine wp_iadd dX1_price_30 ?_ (h1 := s3.1) (h2 := s3.2)
  have s2 := h.1
  replace h := h.2
  refine wp_baload dX1_price_31 rfl rfl s2.1 s2.2 ?_
  refine wp_iload dX1_price_32 rfl ?_
  refine wp_ishr dX1_price_34 ?_
  refine wp_iconst dX1_price_35 rfl ?_
  refine wp_iand dX1_price_36 ?_
  refine wp_if_eq (tgt := 44) dX1_price_37 (by decide) (fun hc => ?_) (fun hc => ?_)
  · replace h := h.1 hc
    refine wp_aload_n dX1_price_44 rfl rfl ?_
    refine wp_getR dX1_price_45 fl_CustomValley_Land_12 rfl rfl ?_
    refine wp_getR dX1_price_48 fl_CustomValley_Land_88 rfl rfl ?_
    refine wp_iload dX1_price_51 rfl ?_
    have s1 := h.1
    replace h := h.2
    refine wp_iaload dX1_price_53 rfl rfl s1.1 s1.2 ?_
    exact wp_iret dX1_price_54 rfl h
  · replace h := h.2 hc
    refine wp_iconst dX1_price_40 rfl ?_
    refine wp_goto (tgt := 54) dX1_price_41 (by decide) ?_
    exact wp_iret dX1_price_54 rfl h
theorem pb_X1_price {i : Nat} {x1 : Int} {x2 : Int} {x3 : Int} {σ : St} {Q : Res → St → Prop} (hs : 0 ≤ x1 ∧ x1 < 1024 ∧ 0 ≤ x2 ∧ x2 < 1024 ∧ 0 ≤ x3 ∧ x3 < 10 ∧ 0 ≤ ownr σ i x2 x3 ∧ ownr σ i x2 x3 < 4) (h : Q (.inl (some (vI (prc σ i x1 x2 x3)))) σ) : WP mX1_price 0 [vR 2 i, vI x1, vI x2, vI x3, vU] [] σ Q := by
  obtain ⟨h1, h2, h3, h4, h5, h6, h7, h8⟩ := hs
  unfold ownr at h7 h8
  refine b_X1_price_0 ⟨by unfold in32; omega, by unfold in32; omega, by omega, by unfold in32; omega, by unfold in32; omega, by omega, fun hc => ⟨⟨h7, h8⟩, ?_⟩, fun hc => ?_⟩
  · unfold prc at h; rw [if_neg (fun q => q hc)] at h; exact h
  · unfold prc at h; rw [if_pos hc] at h; exact h
theorem dX4_has_0 : decode cX4_has 0 = .ok (.iload_n 1, 1) := by decide +kernel
theorem dX4_has_1 : decode cX4_has 1 = .ok (.ifCond .lt 15, 3) := by decide +kernel
theorem dX4_has_4 : decode cX4_has 4 = .ok (.iload_n 1, 1) := by decide +kernel
theorem dX4_has_5 : decode cX4_has 5 = .ok (.aload_n 0, 1) := by decide +kernel
theorem dX4_has_6 : decode cX4_has 6 = .ok (.getfield 42, 3) := by decide +kernel
theorem dX4_has_9 : decode cX4_has 9 = .ok (.if_icmp .ge 7, 3) := by decide +kernel
theorem dX4_has_12 : decode cX4_has 12 = .ok (.iconst 1, 1) := by decide +kernel
theorem dX4_has_13 : decode cX4_has 13 = .ok (.goto 4, 3) := by decide +kernel
theorem dX4_has_16 : decode cX4_has 16 = .ok (.iconst 0, 1) := by decide +kernel
theorem dX4_has_17 : decode cX4_has 17 = .ok (.ireturn, 1) := by decide +kernel
theorem b_X4_has_0 {i : Nat} {x1 : Int} {σ : St} {Q : Res → St → Prop} (h : ((x1 < 0) → (Q (.inl (some (vI 0))) σ)) ∧ ((0 ≤ x1) → ((((σ 5 i 0) ≤ x1) → (Q (.inl (some (vI 0))) σ)) ∧ ((x1 < (σ 5 i 0)) → (Q (.inl (some (vI 1))) σ))))) : WP mX4_has 0 [vR 5 i, vI x1] [] σ Q := by
  refine wp_iload_n dX4_has_0 rfl rfl ?_
  refine wp_if_lt (tgt := 16) dX4_has_1 (by decide) (fun hc => ?_) (fun hc => ?_)
  · replace h := h.1 hc
    refine wp_iconst dX4_has_16 rfl ?_
    exact wp_zret dX4_has_17 rfl h (by decide)
  · replace h := h.2 hc
    refine wp_iload_n dX4_has_4 rfl rfl ?_
    refine wp_aload_n dX4_has_5 rfl rfl ?_
    refine wp_getI dX4_has_6 fl_CustomValley_Rests_42 rfl rfl rfl ?_
    refine wp_icmp_ge (tgt := 16) dX4_has_9 (by decide) (fun hc => ?_) (fun hc => ?_)
    · replace h := h.1 hc
      refine wp_iconst dX4_has_16 rfl ?_
      exact wp_zret dX4_has_17 rfl h (by decide)
    · replace h := h.2 hc
      refine wp_iconst dX4_has_12 rfl ?_
      refine wp_goto (tgt := 17) dX4_has_13 (by decide) ?_
      exact wp_zret dX4_has_17 rfl h (by decide)
theorem pb_X4_has {i : Nat} {x1 : Int} {σ : St} {Q : Res → St → Prop} (hs : True) (h : Q (.inl (some (vI (b2 (0 ≤ x1 ∧ x1 < (σ 5 i 0)))))) σ) : WP mX4_has 0 [vR 5 i, vI x1] [] σ Q := by
  refine b_X4_has_0 ?_
  by_cases hp : (0 ≤ x1 ∧ x1 < (σ 5 i 0))
  · rw [b2, if_pos hp] at h
    (repeat' (first | intro _ | apply And.intro)) <;> (first | exact h | omega | (exfalso; omega) | (exact absurd (by assumption) (by omega)))
  · rw [b2, if_neg hp] at h
    (repeat' (first | intro _ | apply And.intro)) <;> (first | exact h | omega | (exfalso; omega) | (exact absurd (by assumption) (by omega)))
theorem dX4_join_0 : decode cX4_join 0 = .ok (.iload_n 0, 1) := by decide +kernel
theorem dX4_join_1 : decode cX4_join 1 = .ok (.iconst (-1), 1) := by decide +kernel
theorem dX4_join_2 : decode cX4_join 2 = .ok (.if_icmp .eq 8, 3) := by decide +kernel
theorem dX4_join_5 : decode cX4_join 5 = .ok (.iload_n 0, 1) := by decide +kernel
theorem dX4_join_6 : decode cX4_join 6 = .ok (.iload_n 1, 1) := by decide +kernel
theorem dX4_join_7 : decode cX4_join 7 = .ok (.if_icmp .ne 5, 3) := by decide +kernel
theorem dX4_join_10 : decode cX4_join 10 = .ok (.iload_n 1, 1) := by decide +kernel
theorem dX4_join_11 : decode cX4_join 11 = .ok (.ireturn, 1) := by decide +kernel
theorem dX4_join_12 : decode cX4_join 12 = .ok (.iload_n 1, 1) := by decide +kernel
theorem dX4_join_13 : decode cX4_join 13 = .ok (.iconst (-1), 1) := by decide +kernel
theorem dX4_join_14 : decode cX4_join 14 = .ok (.if_icmp .ne 7, 3) := by decide +kernel
theorem dX4_join_17 : decode cX4_join 17 = .ok (.iload_n 0, 1) := by decide +kernel
theorem dX4_join_18 : decode cX4_join 18 = .ok (.goto 5, 3) := by decide +kernel
theorem dX4_join_21 : decode cX4_join 21 = .ok (.bipush (-6), 2) := by decide +kernel
theorem dX4_join_23 : decode cX4_join 23 = .ok (.ireturn, 1) := by decide +kernel
theorem b_X4_join_0 {x0 : Int} {x1 : Int} {σ : St} {Q : Res → St → Prop} (h : ((x0 = (-1)) → (Q (.inl (some (vI x1))) σ)) ∧ ((x0 ≠ (-1)) → (((x0 ≠ x1) → (((x1 ≠ (-1)) → (Q (.inl (some (vI (-6)))) σ)) ∧ ((x1 = (-1)) → (Q (.inl (some (vI x0))) σ)))) ∧ ((x0 = x1) → (Q (.inl (some (vI x1))) σ))))) : WP mX4_join 0 [vI x0, vI x1] [] σ Q := by
  refine wp_iload_n dX4_join_0 rfl rfl ?_
  refine wp_iconst dX4_join_1 rfl ?_
  refine wp_icmp_eq (tgt := 10) dX4_join_2 (by decide) (fun hc => ?_) (fun hc => ?_)
  · replace h := h.1 hc
    refine wp_iload_n dX4_join_10 rfl rfl ?_
    exact wp_iret dX4_join_11 rfl h
  · replace h := h.2 hc
    refine wp_iload_n dX4_join_5 rfl rfl ?_
    refine wp_iload_n dX4_join_6 rfl rfl ?_
    refine wp_icmp_ne (tgt := 12) dX4_join_7 (by decide) (fun hc => ?_) (fun hc => ?_)
    · replace h := h.1 hc
      refine wp_iload_n dX4_join_12 rfl rfl ?_
      refine wp_iconst dX4_join_13 rfl ?_
      refine wp_icmp_ne (tgt := 21) dX4_join_14 (by decide) (fun hc => ?_) (fun hc => ?_)
      · replace h := h.1 hc
        refine wp_bipush dX4_join_21 rfl ?_
        exact wp_iret dX4_join_23 rfl h
      · replace h := h.2 hc
        refine wp_iload_n dX4_join_17 rfl rfl ?_
        refine wp_goto (tgt := 23) dX4_join_18 (by decide) ?_
        exact wp_iret dX4_join_23 rfl h
    · replace h := h.2 hc
      refine wp_iload_n dX4_join_10 rfl rfl ?_
      exact wp_iret dX4_join_11 rfl h
theorem pb_X4_join {x0 : Int} {x1 : Int} {σ : St} {Q : Res → St → Prop} (hs : True) (h : Q (.inl (some (vI (jn x0 x1)))) σ) : WP mX4_join 0 [vI x0, vI x1] [] σ Q := by
  refine b_X4_join_0 ?_
  unfold jn at h
  (repeat' (first | intro _ | apply And.intro)) <;> (first | (rw [if_pos (by omega)] at h; exact h) | (rw [if_neg (by omega), if_pos (by omega)] at h; exact h) | (rw [if_neg (by omega), if_neg (by omega)] at h; exact h))
theorem dX4_least_0 : decode cX4_least 0 = .ok (.aload_n 0, 1) := by decide +kernel
theorem dX4_least_1 : decode cX4_least 1 = .ok (.getfield 18, 3) := by decide +kernel
theorem dX4_least_4 : decode cX4_least 4 = .ok (.aload_n 0, 1) := by decide +kernel
theorem dX4_least_5 : decode cX4_least 5 = .ok (.getfield 21, 3) := by decide +kernel
theorem dX4_least_8 : decode cX4_least 8 = .ok (.iload_n 1, 1) := by decide +kernel
theorem dX4_least_9 : decode cX4_least 9 = .ok (.iaload, 1) := by decide +kernel
theorem dX4_least_10 : decode cX4_least 10 = .ok (.iaload, 1) := by decide +kernel
theorem dX4_least_11 : decode cX4_least 11 = .ok (.ireturn, 1) := by decide +kernel
theorem b_X4_least_0 {i : Nat} {x1 : Int} {σ : St} {Q : Res → St → Prop} (h : (0 ≤ x1 ∧ x1 < 1025) ∧ ((0 ≤ σ 30 i x1.toNat ∧ (σ 30 i x1.toNat) < 1024) ∧ (Q (.inl (some (vI (σ 29 i ((σ 30 i x1.toNat).toNat))))) σ))) : WP mX4_least 0 [vR 5 i, vI x1] [] σ Q := by
  refine wp_aload_n dX4_least_0 rfl rfl ?_
  refine wp_getR dX4_least_1 fl_CustomValley_Rests_18 rfl rfl ?_
  refine wp_aload_n dX4_least_4 rfl rfl ?_
  refine wp_getR dX4_least_5 fl_CustomValley_Rests_21 rfl rfl ?_
  refine wp_iload_n dX4_least_8 rfl rfl ?_
  have s2 := h.1
  replace h := h.2
  refine wp_iaload dX4_least_9 rfl rfl s2.1 s2.2 ?_
  have s1 := h.1
  replace h := h.2
  refine wp_iaload dX4_least_10 rfl rfl s1.1 s1.2 ?_
  exact wp_iret dX4_least_11 rfl h
theorem pb_X4_least {i : Nat} {x1 : Int} {σ : St} {Q : Res → St → Prop} (hs : 0 ≤ x1 ∧ x1 < 1025 ∧ 0 ≤ σ 30 i x1.toNat ∧ (σ 30 i x1.toNat) < 1024) (h : Q (.inl (some (vI (σ 29 i ((σ 30 i x1.toNat).toNat))))) σ) : WP mX4_least 0 [vR 5 i, vI x1] [] σ Q := by
  obtain ⟨h0, h1, h2, h3⟩ := hs
  exact b_X4_least_0 ⟨⟨h0, h1⟩, ⟨h2, h3⟩, h⟩
theorem dX4_size_0 : decode cX4_size 0 = .ok (.aload_n 0, 1) := by decide +kernel
theorem dX4_size_1 : decode cX4_size 1 = .ok (.getfield 21, 3) := by decide +kernel
theorem dX4_size_4 : decode cX4_size 4 = .ok (.iload_n 1, 1) := by decide +kernel
theorem dX4_size_5 : decode cX4_size 5 = .ok (.iconst 1, 1) := by decide +kernel
theorem dX4_size_6 : decode cX4_size 6 = .ok (.iadd, 1) := by decide +kernel
theorem dX4_size_7 : decode cX4_size 7 = .ok (.iaload, 1) := by decide +kernel
theorem dX4_size_8 : decode cX4_size 8 = .ok (.aload_n 0, 1) := by decide +kernel
theorem dX4_size_9 : decode cX4_size 9 = .ok (.getfield 21, 3) := by decide +kernel
theorem dX4_size_12 : decode cX4_size 12 = .ok (.iload_n 1, 1) := by decide +kernel
theorem dX4_size_13 : decode cX4_size 13 = .ok (.iaload, 1) := by decide +kernel
theorem dX4_size_14 : decode cX4_size 14 = .ok (.isub, 1) := by decide +kernel
theorem dX4_size_15 : decode cX4_size 15 = .ok (.ireturn, 1) := by decide +kernel
theorem b_X4_size_0 {i : Nat} {x1 : Int} {σ : St} {Q : Res → St → Prop} (h : (in32 (x1 + 1)) ∧ ((0 ≤ x1 + 1 ∧ (x1 + 1) < 1025) ∧ ((0 ≤ x1 ∧ x1 < 1025) ∧ ((in32 ((σ 30 i ((x1 + 1).toNat)) - (σ 30 i x1.toNat))) ∧ (Q (.inl (some (vI ((σ 30 i ((x1 + 1).toNat)) - (σ 30 i x1.toNat))))) σ))))) : WP mX4_size 0 [vR 5 i, vI x1] [] σ Q := by
  refine wp_aload_n dX4_size_0 rfl rfl ?_
  refine wp_getR dX4_size_1 fl_CustomValley_Rests_21 rfl rfl ?_
  refine wp_iload_n dX4_size_4 rfl rfl ?_
  refine wp_iconst dX4_size_5 rfl ?_
  have s4 := h.1
  replace h := h.2
  refine wp_iadd dX4_size_6 ?_ (h1 := s4.1) (h2 := s4.2)
  have s3 := h.1
  replace h := h.2
  refine wp_iaload dX4_size_7 rfl rfl s3.1 s3.2 ?_
  refine wp_aload_n dX4_size_8 rfl rfl ?_
  refine wp_getR dX4_size_9 fl_CustomValley_Rests_21 rfl rfl ?_
  refine wp_iload_n dX4_size_12 rfl rfl ?_
  have s2 := h.1
  replace h := h.2
  refine wp_iaload dX4_size_13 rfl rfl s2.1 s2.2 ?_
  have s1 := h.1
  replace h := h.2
  refine wp_isub dX4_size_14 ?_ (h1 := s1.1) (h2 := s1.2)
  exact wp_iret dX4_size_15 rfl h
theorem pb_X4_size {i : Nat} {x1 : Int} {σ : St} {Q : Res → St → Prop} (hs : in32 (x1 + 1) ∧ 0 ≤ x1 + 1 ∧ (x1 + 1) < 1025 ∧ 0 ≤ x1 ∧ x1 < 1025 ∧ in32 ((σ 30 i ((x1 + 1).toNat)) - (σ 30 i x1.toNat))) (h : Q (.inl (some (vI ((σ 30 i ((x1 + 1).toNat)) - (σ 30 i x1.toNat))))) σ) : WP mX4_size 0 [vR 5 i, vI x1] [] σ Q := by
  obtain ⟨h0, h1, h2, h3, h4, h5⟩ := hs
  exact b_X4_size_0 ⟨h0, ⟨h1, h2⟩, ⟨h3, h4⟩, h5, h⟩
theorem dX1_change_0 : decode cX1_change 0 = .ok (.aload_n 0, 1) := by decide +kernel
theorem dX1_change_1 : decode cX1_change 1 = .ok (.iconst 0, 1) := by decide +kernel
theorem dX1_change_2 : decode cX1_change 2 = .ok (.putfield 36, 3) := by decide +kernel
theorem dX1_change_5 : decode cX1_change 5 = .ok (.aload_n 0, 1) := by decide +kernel
theorem dX1_change_6 : decode cX1_change 6 = .ok (.iconst 0, 1) := by decide +kernel
theorem dX1_change_7 : decode cX1_change 7 = .ok (.putfield 40, 3) := by decide +kernel
theorem dX1_change_10 : decode cX1_change 10 = .ok (.aload_n 0, 1) := by decide +kernel
theorem dX1_change_11 : decode cX1_change 11 = .ok (.iconst 0, 1) := by decide +kernel
theorem dX1_change_12 : decode cX1_change 12 = .ok (.putfield 43, 3) := by decide +kernel
theorem dX1_change_15 : decode cX1_change 15 = .ok (.return_, 1) := by decide +kernel
theorem b_X1_change_0 {i : Nat} {σ : St} {Q : Res → St → Prop} (h : Q (.inl none) (up (up (up σ 2 i 4 0) 2 i 5 0) 2 i 6 0)) : WP mX1_change 0 [vR 2 i] [] σ Q := by
  refine wp_aload_n dX1_change_0 rfl rfl ?_
  refine wp_iconst dX1_change_1 rfl ?_
  refine wp_putZ dX1_change_2 fp_CustomValley_Land_36 rfl rfl rfl (by decide) ?_
  refine wp_aload_n dX1_change_5 rfl rfl ?_
  refine wp_iconst dX1_change_6 rfl ?_
  refine wp_putZ dX1_change_7 fp_CustomValley_Land_40 rfl rfl rfl (by decide) ?_
  refine wp_aload_n dX1_change_10 rfl rfl ?_
  refine wp_iconst dX1_change_11 rfl ?_
  refine wp_putZ dX1_change_12 fp_CustomValley_Land_43 rfl rfl rfl (by decide) ?_
  exact wp_ret dX1_change_15 rfl h
theorem dX4_enter_0 : decode cX4_enter 0 = .ok (.aload_n 0, 1) := by decide +kernel
theorem dX4_enter_1 : decode cX4_enter 1 = .ok (.dup, 1) := by decide +kernel
theorem dX4_enter_2 : decode cX4_enter 2 = .ok (.getfield 58, 3) := by decide +kernel
theorem dX4_enter_5 : decode cX4_enter 5 = .ok (.iconst 1, 1) := by decide +kernel
theorem dX4_enter_6 : decode cX4_enter 6 = .ok (.iadd, 1) := by decide +kernel
theorem dX4_enter_7 : decode cX4_enter 7 = .ok (.putfield 58, 3) := by decide +kernel
theorem dX4_enter_10 : decode cX4_enter 10 = .ok (.aload_n 0, 1) := by decide +kernel
theorem dX4_enter_11 : decode cX4_enter 11 = .ok (.getfield 27, 3) := by decide +kernel
theorem dX4_enter_14 : decode cX4_enter 14 = .ok (.iload_n 1, 1) := by decide +kernel
theorem dX4_enter_15 : decode cX4_enter 15 = .ok (.aload_n 0, 1) := by decide +kernel
theorem dX4_enter_16 : decode cX4_enter 16 = .ok (.getfield 58, 3) := by decide +kernel
theorem dX4_enter_19 : decode cX4_enter 19 = .ok (.iastore, 1) := by decide +kernel
theorem dX4_enter_20 : decode cX4_enter 20 = .ok (.aload_n 0, 1) := by decide +kernel
theorem dX4_enter_21 : decode cX4_enter 21 = .ok (.getfield 30, 3) := by decide +kernel
theorem dX4_enter_24 : decode cX4_enter 24 = .ok (.iload_n 1, 1) := by decide +kernel
theorem dX4_enter_25 : decode cX4_enter 25 = .ok (.aload_n 0, 1) := by decide +kernel
theorem dX4_enter_26 : decode cX4_enter 26 = .ok (.getfield 58, 3) := by decide +kernel
theorem dX4_enter_29 : decode cX4_enter 29 = .ok (.iastore, 1) := by decide +kernel
theorem dX4_enter_30 : decode cX4_enter 30 = .ok (.aload_n 0, 1) := by decide +kernel
theorem dX4_enter_31 : decode cX4_enter 31 = .ok (.getfield 33, 3) := by decide +kernel
theorem dX4_enter_34 : decode cX4_enter 34 = .ok (.iload_n 1, 1) := by decide +kernel
theorem dX4_enter_35 : decode cX4_enter 35 = .ok (.iconst 0, 1) := by decide +kernel
theorem dX4_enter_36 : decode cX4_enter 36 = .ok (.iastore, 1) := by decide +kernel
theorem dX4_enter_37 : decode cX4_enter 37 = .ok (.aload_n 0, 1) := by decide +kernel
theorem dX4_enter_38 : decode cX4_enter 38 = .ok (.getfield 52, 3) := by decide +kernel
theorem dX4_enter_41 : decode cX4_enter 41 = .ok (.sipush 1024, 3) := by decide +kernel
theorem dX4_enter_44 : decode cX4_enter 44 = .ok (.if_icmp .ge 53, 3) := by decide +kernel
theorem dX4_enter_47 : decode cX4_enter 47 = .ok (.aload_n 0, 1) := by decide +kernel
theorem dX4_enter_48 : decode cX4_enter 48 = .ok (.getfield 55, 3) := by decide +kernel
theorem dX4_enter_51 : decode cX4_enter 51 = .ok (.sipush 1024, 3) := by decide +kernel
theorem dX4_enter_54 : decode cX4_enter 54 = .ok (.if_icmp .ge 43, 3) := by decide +kernel
theorem dX4_enter_57 : decode cX4_enter 57 = .ok (.aload_n 0, 1) := by decide +kernel
theorem dX4_enter_58 : decode cX4_enter 58 = .ok (.getfield 36, 3) := by decide +kernel
theorem dX4_enter_61 : decode cX4_enter 61 = .ok (.aload_n 0, 1) := by decide +kernel
theorem dX4_enter_62 : decode cX4_enter 62 = .ok (.getfield 52, 3) := by decide +kernel
theorem dX4_enter_65 : decode cX4_enter 65 = .ok (.iload_n 1, 1) := by decide +kernel
theorem dX4_enter_66 : decode cX4_enter 66 = .ok (.iastore, 1) := by decide +kernel
theorem dX4_enter_67 : decode cX4_enter 67 = .ok (.aload_n 0, 1) := by decide +kernel
theorem dX4_enter_68 : decode cX4_enter 68 = .ok (.dup, 1) := by decide +kernel
theorem dX4_enter_69 : decode cX4_enter 69 = .ok (.getfield 52, 3) := by decide +kernel
theorem dX4_enter_72 : decode cX4_enter 72 = .ok (.iconst 1, 1) := by decide +kernel
theorem dX4_enter_73 : decode cX4_enter 73 = .ok (.iadd, 1) := by decide +kernel
theorem dX4_enter_74 : decode cX4_enter 74 = .ok (.putfield 52, 3) := by decide +kernel
theorem dX4_enter_77 : decode cX4_enter 77 = .ok (.aload_n 0, 1) := by decide +kernel
theorem dX4_enter_78 : decode cX4_enter 78 = .ok (.getfield 39, 3) := by decide +kernel
theorem dX4_enter_81 : decode cX4_enter 81 = .ok (.aload_n 0, 1) := by decide +kernel
theorem dX4_enter_82 : decode cX4_enter 82 = .ok (.getfield 55, 3) := by decide +kernel
theorem dX4_enter_85 : decode cX4_enter 85 = .ok (.iload_n 1, 1) := by decide +kernel
theorem dX4_enter_86 : decode cX4_enter 86 = .ok (.iastore, 1) := by decide +kernel
theorem dX4_enter_87 : decode cX4_enter 87 = .ok (.aload_n 0, 1) := by decide +kernel
theorem dX4_enter_88 : decode cX4_enter 88 = .ok (.dup, 1) := by decide +kernel
theorem dX4_enter_89 : decode cX4_enter 89 = .ok (.getfield 55, 3) := by decide +kernel
theorem dX4_enter_92 : decode cX4_enter 92 = .ok (.iconst 1, 1) := by decide +kernel
theorem dX4_enter_93 : decode cX4_enter 93 = .ok (.iadd, 1) := by decide +kernel
theorem dX4_enter_94 : decode cX4_enter 94 = .ok (.putfield 55, 3) := by decide +kernel
theorem dX4_enter_97 : decode cX4_enter 97 = .ok (.return_, 1) := by decide +kernel
theorem b_X4_enter_0 {i : Nat} {x1 : Int} {σ : St} {Q : Res → St → Prop} (h : (in32 ((σ 5 i 13) + 1)) ∧ ((0 ≤ x1 ∧ x1 < 1024) ∧ ((0 ≤ x1 ∧ x1 < 1024) ∧ ((0 ≤ x1 ∧ x1 < 1024) ∧ (((1024 ≤ (σ 5 i 11)) → (Q (.inl none) (up (up (up (up σ 5 i 13 ((σ 5 i 13) + 1)) 32 i x1.toNat ((σ 5 i 13) + 1)) 33 i x1.toNat ((σ 5 i 13) + 1)) 34 i x1.toNat 0))) ∧ (((σ 5 i 11) < 1024) → (((1024 ≤ (σ 5 i 12)) → (Q (.inl none) (up (up (up (up σ 5 i 13 ((σ 5 i 13) + 1)) 32 i x1.toNat ((σ 5 i 13) + 1)) 33 i x1.toNat ((σ 5 i 13) + 1)) 34 i x1.toNat 0))) ∧ (((σ 5 i 12) < 1024) → ((0 ≤ σ 5 i 11 ∧ (σ 5 i 11) < 1024) ∧ ((in32 ((σ 5 i 11) + 1)) ∧ ((0 ≤ σ 5 i 12 ∧ (σ 5 i 12) < 1024) ∧ ((in32 ((σ 5 i 12) + 1)) ∧ (Q (.inl none) (up (up (up (up (up (up (up (up σ 5 i 13 ((σ 5 i 13) + 1)) 32 i x1.toNat ((σ 5 i 13) + 1)) 33 i x1.toNat ((σ 5 i 13) + 1)) 34 i x1.toNat 0) 35 i ((σ 5 i 11).toNat) x1) 5 i 11 ((σ 5 i 11) + 1)) 36 i ((σ 5 i 12).toNat) x1) 5 i 12 ((σ 5 i 12) + 1))))))))))))))) : WP mX4_enter 0 [vR 5 i, vI x1] [] σ Q := by
  refine wp_aload_n dX4_enter_0 rfl rfl ?_
  refine wp_dup dX4_enter_1 ?_
  refine wp_getI dX4_enter_2 fl_CustomValley_Rests_58 rfl rfl rfl ?_
  refine wp_iconst dX4_enter_5 rfl ?_
  have s8 := h.1
  replace h := h.2
  refine wp_iadd dX4_enter_6 ?_ (h1 := s8.1) (h2 := s8.2)
  refine wp_putI dX4_enter_7 fp_CustomValley_Rests_58 rfl rfl rfl ?_
  refine wp_aload_n dX4_enter_10 rfl rfl ?_
  refine wp_getR dX4_enter_11 fl_CustomValley_Rests_27 rfl rfl ?_
  refine wp_iload_n dX4_enter_14 rfl rfl ?_
  refine wp_aload_n dX4_enter_15 rfl rfl ?_
  refine wp_getI dX4_enter_16 fl_CustomValley_Rests_58 rfl rfl rfl ?_
  rw [show (up σ 5 i 13 ((σ 5 i 13) + 1)) 5 i 13 = (σ 5 i 13) + 1 from by simp [up]]
  have s7 := h.1
  replace h := h.2
  refine wp_iastore dX4_enter_19 rfl rfl s7.1 s7.2 ?_
  refine wp_aload_n dX4_enter_20 rfl rfl ?_
  refine wp_getR dX4_enter_21 fl_CustomValley_Rests_30 rfl rfl ?_
  refine wp_iload_n dX4_enter_24 rfl rfl ?_
  refine wp_aload_n dX4_enter_25 rfl rfl ?_
  refine wp_getI dX4_enter_26 fl_CustomValley_Rests_58 rfl rfl rfl ?_
  rw [show (up (up σ 5 i 13 ((σ 5 i 13) + 1)) 32 i x1.toNat ((σ 5 i 13) + 1)) 5 i 13 = (σ 5 i 13) + 1 from by simp [up]]
  have s6 := h.1
  replace h := h.2
  refine wp_iastore dX4_enter_29 rfl rfl s6.1 s6.2 ?_
  refine wp_aload_n dX4_enter_30 rfl rfl ?_
  refine wp_getR dX4_enter_31 fl_CustomValley_Rests_33 rfl rfl ?_
  refine wp_iload_n dX4_enter_34 rfl rfl ?_
  refine wp_iconst dX4_enter_35 rfl ?_
  have s5 := h.1
  replace h := h.2
  refine wp_iastore dX4_enter_36 rfl rfl s5.1 s5.2 ?_
  refine wp_aload_n dX4_enter_37 rfl rfl ?_
  refine wp_getI dX4_enter_38 fl_CustomValley_Rests_52 rfl rfl rfl ?_
  rw [show (up (up (up (up σ 5 i 13 ((σ 5 i 13) + 1)) 32 i x1.toNat ((σ 5 i 13) + 1)) 33 i x1.toNat ((σ 5 i 13) + 1)) 34 i x1.toNat 0) 5 i 11 = σ 5 i 11 from by simp [up]]
  refine wp_sipush dX4_enter_41 rfl ?_
  refine wp_icmp_ge (tgt := 97) dX4_enter_44 (by decide) (fun hc => ?_) (fun hc => ?_)
  · replace h := h.1 hc
    exact wp_ret dX4_enter_97 rfl h
  · replace h := h.2 hc
    refine wp_aload_n dX4_enter_47 rfl rfl ?_
    refine wp_getI dX4_enter_48 fl_CustomValley_Rests_55 rfl rfl rfl ?_
    rw [show (up (up (up (up σ 5 i 13 ((σ 5 i 13) + 1)) 32 i x1.toNat ((σ 5 i 13) + 1)) 33 i x1.toNat ((σ 5 i 13) + 1)) 34 i x1.toNat 0) 5 i 12 = σ 5 i 12 from by simp [up]]
    refine wp_sipush dX4_enter_51 rfl ?_
    refine wp_icmp_ge (tgt := 97) dX4_enter_54 (by decide) (fun hc => ?_) (fun hc => ?_)
    · replace h := h.1 hc
      exact wp_ret dX4_enter_97 rfl h
    · replace h := h.2 hc
      refine wp_aload_n dX4_enter_57 rfl rfl ?_
      refine wp_getR dX4_enter_58 fl_CustomValley_Rests_36 rfl rfl ?_
      refine wp_aload_n dX4_enter_61 rfl rfl ?_
      refine wp_getI dX4_enter_62 fl_CustomValley_Rests_52 rfl rfl rfl ?_
      rw [show (up (up (up (up σ 5 i 13 ((σ 5 i 13) + 1)) 32 i x1.toNat ((σ 5 i 13) + 1)) 33 i x1.toNat ((σ 5 i 13) + 1)) 34 i x1.toNat 0) 5 i 11 = σ 5 i 11 from by simp [up]]
      refine wp_iload_n dX4_enter_65 rfl rfl ?_
      have s4 := h.1
      replace h := h.2
      refine wp_iastore dX4_enter_66 rfl rfl s4.1 s4.2 ?_
      refine wp_aload_n dX4_enter_67 rfl rfl ?_
      refine wp_dup dX4_enter_68 ?_
      refine wp_getI dX4_enter_69 fl_CustomValley_Rests_52 rfl rfl rfl ?_
      rw [show (up (up (up (up (up σ 5 i 13 ((σ 5 i 13) + 1)) 32 i x1.toNat ((σ 5 i 13) + 1)) 33 i x1.toNat ((σ 5 i 13) + 1)) 34 i x1.toNat 0) 35 i ((σ 5 i 11).toNat) x1) 5 i 11 = σ 5 i 11 from by simp [up]]
      refine wp_iconst dX4_enter_72 rfl ?_
      have s3 := h.1
      replace h := h.2
      refine wp_iadd dX4_enter_73 ?_ (h1 := s3.1) (h2 := s3.2)
      refine wp_putI dX4_enter_74 fp_CustomValley_Rests_52 rfl rfl rfl ?_
      refine wp_aload_n dX4_enter_77 rfl rfl ?_
      refine wp_getR dX4_enter_78 fl_CustomValley_Rests_39 rfl rfl ?_
      refine wp_aload_n dX4_enter_81 rfl rfl ?_
      refine wp_getI dX4_enter_82 fl_CustomValley_Rests_55 rfl rfl rfl ?_
      rw [show (up (up (up (up (up (up σ 5 i 13 ((σ 5 i 13) + 1)) 32 i x1.toNat ((σ 5 i 13) + 1)) 33 i x1.toNat ((σ 5 i 13) + 1)) 34 i x1.toNat 0) 35 i ((σ 5 i 11).toNat) x1) 5 i 11 ((σ 5 i 11) + 1)) 5 i 12 = σ 5 i 12 from by simp [up]]
      refine wp_iload_n dX4_enter_85 rfl rfl ?_
      have s2 := h.1
      replace h := h.2
      refine wp_iastore dX4_enter_86 rfl rfl s2.1 s2.2 ?_
      refine wp_aload_n dX4_enter_87 rfl rfl ?_
      refine wp_dup dX4_enter_88 ?_
      refine wp_getI dX4_enter_89 fl_CustomValley_Rests_55 rfl rfl rfl ?_
      rw [show (up (up (up (up (up (up (up σ 5 i 13 ((σ 5 i 13) + 1)) 32 i x1.toNat ((σ 5 i 13) + 1)) 33 i x1.toNat ((σ 5 i 13) + 1)) 34 i x1.toNat 0) 35 i ((σ 5 i 11).toNat) x1) 5 i 11 ((σ 5 i 11) + 1)) 36 i ((σ 5 i 12).toNat) x1) 5 i 12 = σ 5 i 12 from by simp [up]]
      refine wp_iconst dX4_enter_92 rfl ?_
      have s1 := h.1
      replace h := h.2
      refine wp_iadd dX4_enter_93 ?_ (h1 := s1.1) (h2 := s1.2)
      refine wp_putI dX4_enter_94 fp_CustomValley_Rests_55 rfl rfl rfl ?_
      exact wp_ret dX4_enter_97 rfl h
theorem dX4_close_0 : decode cX4_close 0 = .ok (.aload_n 0, 1) := by decide +kernel
theorem dX4_close_1 : decode cX4_close 1 = .ok (.getfield 55, 3) := by decide +kernel
theorem dX4_close_4 : decode cX4_close 4 = .ok (.istore_n 2, 1) := by decide +kernel
theorem dX4_close_5 : decode cX4_close 5 = .ok (.iconst (-1), 1) := by decide +kernel
theorem dX4_close_6 : decode cX4_close 6 = .ok (.istore_n 3, 1) := by decide +kernel
theorem dX4_close_7 : decode cX4_close 7 = .ok (.iconst 1, 1) := by decide +kernel
theorem dX4_close_8 : decode cX4_close 8 = .ok (.istore 4, 2) := by decide +kernel
theorem dX4_close_10 : decode cX4_close 10 = .ok (.iload 4, 2) := by decide +kernel
theorem dX4_close_12 : decode cX4_close 12 = .ok (.ifCond .eq 46, 3) := by decide +kernel
theorem dX4_close_15 : decode cX4_close 15 = .ok (.iload_n 2, 1) := by decide +kernel
theorem dX4_close_16 : decode cX4_close 16 = .ok (.ifCond .le 42, 3) := by decide +kernel
theorem dX4_close_19 : decode cX4_close 19 = .ok (.iinc 2 (-1), 3) := by decide +kernel
theorem dX4_close_22 : decode cX4_close 22 = .ok (.iload_n 3, 1) := by decide +kernel
theorem dX4_close_23 : decode cX4_close 23 = .ok (.aload_n 0, 1) := by decide +kernel
theorem dX4_close_24 : decode cX4_close 24 = .ok (.getfield 9, 3) := by decide +kernel
theorem dX4_close_27 : decode cX4_close 27 = .ok (.aload_n 0, 1) := by decide +kernel
theorem dX4_close_28 : decode cX4_close 28 = .ok (.getfield 39, 3) := by decide +kernel
theorem dX4_close_31 : decode cX4_close 31 = .ok (.iload_n 2, 1) := by decide +kernel
theorem dX4_close_32 : decode cX4_close 32 = .ok (.iaload, 1) := by decide +kernel
theorem dX4_close_33 : decode cX4_close 33 = .ok (.iaload, 1) := by decide +kernel
theorem dX4_close_34 : decode cX4_close 34 = .ok (.invokestatic 105, 3) := by decide +kernel
theorem dX4_close_37 : decode cX4_close 37 = .ok (.istore_n 3, 1) := by decide +kernel
theorem dX4_close_38 : decode cX4_close 38 = .ok (.aload_n 0, 1) := by decide +kernel
theorem dX4_close_39 : decode cX4_close 39 = .ok (.getfield 39, 3) := by decide +kernel
theorem dX4_close_42 : decode cX4_close 42 = .ok (.iload_n 2, 1) := by decide +kernel
theorem dX4_close_43 : decode cX4_close 43 = .ok (.iaload, 1) := by decide +kernel
theorem dX4_close_44 : decode cX4_close 44 = .ok (.iload_n 1, 1) := by decide +kernel
theorem dX4_close_45 : decode cX4_close 45 = .ok (.if_icmp .eq 7, 3) := by decide +kernel
theorem dX4_close_48 : decode cX4_close 48 = .ok (.iconst 1, 1) := by decide +kernel
theorem dX4_close_49 : decode cX4_close 49 = .ok (.goto 4, 3) := by decide +kernel
theorem dX4_close_52 : decode cX4_close 52 = .ok (.iconst 0, 1) := by decide +kernel
theorem dX4_close_53 : decode cX4_close 53 = .ok (.istore 4, 2) := by decide +kernel
theorem dX4_close_55 : decode cX4_close 55 = .ok (.goto (-45), 3) := by decide +kernel
theorem dX4_close_58 : decode cX4_close 58 = .ok (.iload_n 3, 1) := by decide +kernel
theorem dX4_close_59 : decode cX4_close 59 = .ok (.iconst (-1), 1) := by decide +kernel
theorem dX4_close_60 : decode cX4_close 60 = .ok (.if_icmp .ne 7, 3) := by decide +kernel
theorem dX4_close_63 : decode cX4_close 63 = .ok (.iconst 1, 1) := by decide +kernel
theorem dX4_close_64 : decode cX4_close 64 = .ok (.goto 4, 3) := by decide +kernel
theorem dX4_close_67 : decode cX4_close 67 = .ok (.iconst 0, 1) := by decide +kernel
theorem dX4_close_68 : decode cX4_close 68 = .ok (.istore 5, 2) := by decide +kernel
theorem dX4_close_70 : decode cX4_close 70 = .ok (.iload_n 2, 1) := by decide +kernel
theorem dX4_close_71 : decode cX4_close 71 = .ok (.istore 6, 2) := by decide +kernel
theorem dX4_close_73 : decode cX4_close 73 = .ok (.iload 6, 2) := by decide +kernel
theorem dX4_close_75 : decode cX4_close 75 = .ok (.aload_n 0, 1) := by decide +kernel
theorem dX4_close_76 : decode cX4_close 76 = .ok (.getfield 55, 3) := by decide +kernel
theorem dX4_close_79 : decode cX4_close 79 = .ok (.if_icmp .ge 59, 3) := by decide +kernel
theorem dX4_close_82 : decode cX4_close 82 = .ok (.aload_n 0, 1) := by decide +kernel
theorem dX4_close_83 : decode cX4_close 83 = .ok (.getfield 15, 3) := by decide +kernel
theorem dX4_close_86 : decode cX4_close 86 = .ok (.aload_n 0, 1) := by decide +kernel
theorem dX4_close_87 : decode cX4_close 87 = .ok (.getfield 39, 3) := by decide +kernel
theorem dX4_close_90 : decode cX4_close 90 = .ok (.iload 6, 2) := by decide +kernel
theorem dX4_close_92 : decode cX4_close 92 = .ok (.iaload, 1) := by decide +kernel
theorem dX4_close_93 : decode cX4_close 93 = .ok (.iload 5, 2) := by decide +kernel
theorem dX4_close_95 : decode cX4_close 95 = .ok (.ifCond .eq 10, 3) := by decide +kernel
theorem dX4_close_98 : decode cX4_close 98 = .ok (.aload_n 0, 1) := by decide +kernel
theorem dX4_close_99 : decode cX4_close 99 = .ok (.getfield 42, 3) := by decide +kernel
theorem dX4_close_102 : decode cX4_close 102 = .ok (.goto 4, 3) := by decide +kernel
theorem dX4_close_105 : decode cX4_close 105 = .ok (.iload_n 3, 1) := by decide +kernel
theorem dX4_close_106 : decode cX4_close 106 = .ok (.iastore, 1) := by decide +kernel
theorem dX4_close_107 : decode cX4_close 107 = .ok (.aload_n 0, 1) := by decide +kernel
theorem dX4_close_108 : decode cX4_close 108 = .ok (.getfield 9, 3) := by decide +kernel
theorem dX4_close_111 : decode cX4_close 111 = .ok (.aload_n 0, 1) := by decide +kernel
theorem dX4_close_112 : decode cX4_close 112 = .ok (.getfield 39, 3) := by decide +kernel
theorem dX4_close_115 : decode cX4_close 115 = .ok (.iload 6, 2) := by decide +kernel
theorem dX4_close_117 : decode cX4_close 117 = .ok (.iaload, 1) := by decide +kernel
theorem dX4_close_118 : decode cX4_close 118 = .ok (.iload 5, 2) := by decide +kernel
theorem dX4_close_120 : decode cX4_close 120 = .ok (.ifCond .eq 10, 3) := by decide +kernel
theorem dX4_close_123 : decode cX4_close 123 = .ok (.aload_n 0, 1) := by decide +kernel
theorem dX4_close_124 : decode cX4_close 124 = .ok (.getfield 42, 3) := by decide +kernel
theorem dX4_close_127 : decode cX4_close 127 = .ok (.goto 4, 3) := by decide +kernel
theorem dX4_close_130 : decode cX4_close 130 = .ok (.iconst (-1), 1) := by decide +kernel
theorem dX4_close_131 : decode cX4_close 131 = .ok (.iastore, 1) := by decide +kernel
theorem dX4_close_132 : decode cX4_close 132 = .ok (.iinc 6 1, 3) := by decide +kernel
theorem dX4_close_135 : decode cX4_close 135 = .ok (.goto (-62), 3) := by decide +kernel
theorem dX4_close_138 : decode cX4_close 138 = .ok (.iload 5, 2) := by decide +kernel
theorem dX4_close_140 : decode cX4_close 140 = .ok (.ifCond .eq 13, 3) := by decide +kernel
theorem dX4_close_143 : decode cX4_close 143 = .ok (.aload_n 0, 1) := by decide +kernel
theorem dX4_close_144 : decode cX4_close 144 = .ok (.dup, 1) := by decide +kernel
theorem dX4_close_145 : decode cX4_close 145 = .ok (.getfield 42, 3) := by decide +kernel
theorem dX4_close_148 : decode cX4_close 148 = .ok (.iconst 1, 1) := by decide +kernel
theorem dX4_close_149 : decode cX4_close 149 = .ok (.iadd, 1) := by decide +kernel
theorem dX4_close_150 : decode cX4_close 150 = .ok (.putfield 42, 3) := by decide +kernel
theorem dX4_close_153 : decode cX4_close 153 = .ok (.aload_n 0, 1) := by decide +kernel
theorem dX4_close_154 : decode cX4_close 154 = .ok (.iload_n 2, 1) := by decide +kernel
theorem dX4_close_155 : decode cX4_close 155 = .ok (.putfield 55, 3) := by decide +kernel
theorem dX4_close_158 : decode cX4_close 158 = .ok (.return_, 1) := by decide +kernel
theorem b_X4_close_0 {i : Nat} {x1 : Int} {σ : St} {Q : Res → St → Prop} (h : WP mX4_close 10 [vR 5 i, vI x1, vI (σ 5 i 12), vI (-1), vI 1, vU, vU] [] σ Q) : WP mX4_close 0 [vR 5 i, vI x1, vU, vU, vU, vU, vU] [] σ Q := by
  refine wp_aload_n dX4_close_0 rfl rfl ?_
  refine wp_getI dX4_close_1 fl_CustomValley_Rests_55 rfl rfl rfl ?_
  refine wp_istore_n dX4_close_4 rfl (by decide) rfl rfl ?_
  refine wp_iconst dX4_close_5 rfl ?_
  refine wp_istore_n dX4_close_6 rfl (by decide) rfl rfl ?_
  refine wp_iconst dX4_close_7 rfl ?_
  refine wp_istore dX4_close_8 (by decide) rfl rfl ?_
  exact h
theorem b_X4_close_10 {i : Nat} {x1 : Int} {x2 : Int} {x3 : Int} {x4 : Int} {σ : St} {Q : Res → St → Prop} (h : ((x4 = 0) → (((x3 ≠ (-1)) → (WP mX4_close 73 [vR 5 i, vU, vI x2, vI x3, vU, vI 0, vI x2] [] σ Q)) ∧ ((x3 = (-1)) → (WP mX4_close 73 [vR 5 i, vU, vI x2, vI x3, vU, vI 1, vI x2] [] σ Q)))) ∧ ((x4 ≠ 0) → (((x2 ≤ 0) → (((x3 ≠ (-1)) → (WP mX4_close 73 [vR 5 i, vU, vI x2, vI x3, vU, vI 0, vI x2] [] σ Q)) ∧ ((x3 = (-1)) → (WP mX4_close 73 [vR 5 i, vU, vI x2, vI x3, vU, vI 1, vI x2] [] σ Q)))) ∧ ((0 < x2) → ((in32 (x2 + (-1))) ∧ ((0 ≤ x2 + (-1) ∧ (x2 + (-1)) < 1024) ∧ ((0 ≤ σ 36 i ((x2 + (-1)).toNat) ∧ (σ 36 i ((x2 + (-1)).toNat)) < 1024) ∧ ((0 ≤ x2 + (-1) ∧ (x2 + (-1)) < 1024) ∧ ((((σ 36 i ((x2 + (-1)).toNat)) = x1) → (WP mX4_close 10 [vR 5 i, vI x1, vI (x2 + (-1)), vI (jn x3 (σ 27 i ((σ 36 i ((x2 + (-1)).toNat)).toNat))), vI 0, vU, vU] [] σ Q)) ∧ (((σ 36 i ((x2 + (-1)).toNat)) ≠ x1) → (WP mX4_close 10 [vR 5 i, vI x1, vI (x2 + (-1)), vI (jn x3 (σ 27 i ((σ 36 i ((x2 + (-1)).toNat)).toNat))), vI 1, vU, vU] [] σ Q))))))))))) : WP mX4_close 10 [vR 5 i, vI x1, vI x2, vI x3, vI x4, vU, vU] [] σ Q := by
  refine wp_iload dX4_close_10 rfl ?_
  refine wp_if_eq (tgt := 58) dX4_close_12 (by decide) (fun hc => ?_) (fun hc => ?_)
  · replace h := h.1 hc
    refine wp_iload_n dX4_close_58 rfl rfl ?_
    refine wp_iconst dX4_close_59 rfl ?_
    refine wp_icmp_ne (tgt := 67) dX4_close_60 (by decide) (fun hc => ?_) (fun hc => ?_)
    · replace h := h.1 hc
      refine wp_iconst dX4_close_67 rfl ?_
      refine wp_istore dX4_close_68 (by decide) rfl rfl ?_
      refine wp_iload_n dX4_close_70 rfl rfl ?_
      refine wp_istore dX4_close_71 (by decide) rfl rfl ?_
      exact wp_drop (als' := [vR 5 i, vU, vI x2, vI x3, vU, vI 0, vI x2]) (lle_c (Or.inl rfl) (lle_c (Or.inr rfl) (lle_c (Or.inl rfl) (lle_c (Or.inl rfl) (lle_c (Or.inr rfl) (lle_c (Or.inl rfl) (lle_c (Or.inl rfl) lle_n))))))) h
    · replace h := h.2 hc
      refine wp_iconst dX4_close_63 rfl ?_
      refine wp_goto (tgt := 68) dX4_close_64 (by decide) ?_
      refine wp_istore dX4_close_68 (by decide) rfl rfl ?_
      refine wp_iload_n dX4_close_70 rfl rfl ?_
      refine wp_istore dX4_close_71 (by decide) rfl rfl ?_
      exact wp_drop (als' := [vR 5 i, vU, vI x2, vI x3, vU, vI 1, vI x2]) (lle_c (Or.inl rfl) (lle_c (Or.inr rfl) (lle_c (Or.inl rfl) (lle_c (Or.inl rfl) (lle_c (Or.inr rfl) (lle_c (Or.inl rfl) (lle_c (Or.inl rfl) lle_n))))))) h
  · replace h := h.2 hc
    refine wp_iload_n dX4_close_15 rfl rfl ?_
    refine wp_if_le (tgt := 58) dX4_close_16 (by decide) (fun hc => ?_) (fun hc => ?_)
    · replace h := h.1 hc
      refine wp_iload_n dX4_close_58 rfl rfl ?_
      refine wp_iconst dX4_close_59 rfl ?_
      refine wp_icmp_ne (tgt := 67) dX4_close_60 (by decide) (fun hc => ?_) (fun hc => ?_)
      · replace h := h.1 hc
        refine wp_iconst dX4_close_67 rfl ?_
        refine wp_istore dX4_close_68 (by decide) rfl rfl ?_
        refine wp_iload_n dX4_close_70 rfl rfl ?_
        refine wp_istore dX4_close_71 (by decide) rfl rfl ?_
        exact wp_drop (als' := [vR 5 i, vU, vI x2, vI x3, vU, vI 0, vI x2]) (lle_c (Or.inl rfl) (lle_c (Or.inr rfl) (lle_c (Or.inl rfl) (lle_c (Or.inl rfl) (lle_c (Or.inr rfl) (lle_c (Or.inl rfl) (lle_c (Or.inl rfl) lle_n))))))) h
      · replace h := h.2 hc
        refine wp_iconst dX4_close_63 rfl ?_
        refine wp_goto (tgt := 68) dX4_close_64 (by decide) ?_
        refine wp_istore dX4_close_68 (by decide) rfl rfl ?_
        refine wp_iload_n dX4_close_70 rfl rfl ?_
        refine wp_istore dX4_close_71 (by decide) rfl rfl ?_
        exact wp_drop (als' := [vR 5 i, vU, vI x2, vI x3, vU, vI 1, vI x2]) (lle_c (Or.inl rfl) (lle_c (Or.inr rfl) (lle_c (Or.inl rfl) (lle_c (Or.inl rfl) (lle_c (Or.inr rfl) (lle_c (Or.inl rfl) (lle_c (Or.inl rfl) lle_n))))))) h
    · replace h := h.2 hc
      have s4 := h.1
      replace h := h.2
      refine wp_iinc dX4_close_19 rfl (by decide) rfl rfl ?_ (h1 := s4.1) (h2 := s4.2)
      refine wp_iload_n dX4_close_22 rfl rfl ?_
      refine wp_aload_n dX4_close_23 rfl rfl ?_
      refine wp_getR dX4_close_24 fl_CustomValley_Rests_9 rfl rfl ?_
      refine wp_aload_n dX4_close_27 rfl rfl ?_
      refine wp_getR dX4_close_28 fl_CustomValley_Rests_39 rfl rfl ?_
      refine wp_iload_n dX4_close_31 rfl rfl ?_
      have s3 := h.1
      replace h := h.2
      refine wp_iaload dX4_close_32 rfl rfl s3.1 s3.2 ?_
      have s2 := h.1
      replace h := h.2
      refine wp_iaload dX4_close_33 rfl rfl s2.1 s2.2 ?_
      refine wp_invS (N := mX4_join) [vI x3, vI (σ 27 i ((σ 36 i ((x2 + (-1)).toNat)).toNat))] dX4_close_34 ml_CustomValley_Rests_105 mvX4_join rfl rfl rfl (Nat.le_of_ble_eq_true rfl) (Nat.le_of_ble_eq_true rfl) (by decide) (by decide) ?_
      refine pb_X4_join (by trivial) ?_
      show WP mX4_close 37 [vR 5 i, vI x1, vI (x2 + (-1)), vI x3, vI x4, vU, vU] [vI (jn x3 (σ 27 i ((σ 36 i ((x2 + (-1)).toNat)).toNat)))] σ Q
      refine wp_istore_n dX4_close_37 rfl (by decide) rfl rfl ?_
      refine wp_aload_n dX4_close_38 rfl rfl ?_
      refine wp_getR dX4_close_39 fl_CustomValley_Rests_39 rfl rfl ?_
      refine wp_iload_n dX4_close_42 rfl rfl ?_
      have s1 := h.1
      replace h := h.2
      refine wp_iaload dX4_close_43 rfl rfl s1.1 s1.2 ?_
      refine wp_iload_n dX4_close_44 rfl rfl ?_
      refine wp_icmp_eq (tgt := 52) dX4_close_45 (by decide) (fun hc => ?_) (fun hc => ?_)
      · replace h := h.1 hc
        refine wp_iconst dX4_close_52 rfl ?_
        refine wp_istore dX4_close_53 (by decide) rfl rfl ?_
        refine wp_goto (tgt := 10) dX4_close_55 (by decide) ?_
        exact h
      · replace h := h.2 hc
        refine wp_iconst dX4_close_48 rfl ?_
        refine wp_goto (tgt := 53) dX4_close_49 (by decide) ?_
        refine wp_istore dX4_close_53 (by decide) rfl rfl ?_
        refine wp_goto (tgt := 10) dX4_close_55 (by decide) ?_
        exact h
theorem b_X4_close_73 {i : Nat} {x2 : Int} {x3 : Int} {x5 : Int} {x6 : Int} {σ : St} {Q : Res → St → Prop} (h : (((σ 5 i 12) ≤ x6) → (((x5 = 0) → (Q (.inl none) (up σ 5 i 12 x2))) ∧ ((x5 ≠ 0) → ((in32 ((σ 5 i 0) + 1)) ∧ (Q (.inl none) (up (up σ 5 i 0 ((σ 5 i 0) + 1)) 5 i 12 x2)))))) ∧ ((x6 < (σ 5 i 12)) → ((0 ≤ x6 ∧ x6 < 1024) ∧ (((x5 = 0) → (WP mX4_close 106 [vR 5 i, vU, vI x2, vI x3, vU, vI x5, vI x6] [vI x3, vI (σ 36 i x6.toNat), vR 28 i] σ Q)) ∧ ((x5 ≠ 0) → (WP mX4_close 106 [vR 5 i, vU, vI x2, vI x3, vU, vI x5, vI x6] [vI (σ 5 i 0), vI (σ 36 i x6.toNat), vR 28 i] σ Q)))))) : WP mX4_close 73 [vR 5 i, vU, vI x2, vI x3, vU, vI x5, vI x6] [] σ Q := by
  refine wp_iload dX4_close_73 rfl ?_
  refine wp_aload_n dX4_close_75 rfl rfl ?_
  refine wp_getI dX4_close_76 fl_CustomValley_Rests_55 rfl rfl rfl ?_
  refine wp_icmp_ge (tgt := 138) dX4_close_79 (by decide) (fun hc => ?_) (fun hc => ?_)
  · replace h := h.1 hc
    refine wp_iload dX4_close_138 rfl ?_
    refine wp_if_eq (tgt := 153) dX4_close_140 (by decide) (fun hc => ?_) (fun hc => ?_)
    · replace h := h.1 hc
      refine wp_aload_n dX4_close_153 rfl rfl ?_
      refine wp_iload_n dX4_close_154 rfl rfl ?_
      refine wp_putI dX4_close_155 fp_CustomValley_Rests_55 rfl rfl rfl ?_
      exact wp_ret dX4_close_158 rfl h
    · replace h := h.2 hc
      refine wp_aload_n dX4_close_143 rfl rfl ?_
      refine wp_dup dX4_close_144 ?_
      refine wp_getI dX4_close_145 fl_CustomValley_Rests_42 rfl rfl rfl ?_
      refine wp_iconst dX4_close_148 rfl ?_
      have s1 := h.1
      replace h := h.2
      refine wp_iadd dX4_close_149 ?_ (h1 := s1.1) (h2 := s1.2)
      refine wp_putI dX4_close_150 fp_CustomValley_Rests_42 rfl rfl rfl ?_
      refine wp_aload_n dX4_close_153 rfl rfl ?_
      refine wp_iload_n dX4_close_154 rfl rfl ?_
      refine wp_putI dX4_close_155 fp_CustomValley_Rests_55 rfl rfl rfl ?_
      exact wp_ret dX4_close_158 rfl h
  · replace h := h.2 hc
    refine wp_aload_n dX4_close_82 rfl rfl ?_
    refine wp_getR dX4_close_83 fl_CustomValley_Rests_15 rfl rfl ?_
    refine wp_aload_n dX4_close_86 rfl rfl ?_
    refine wp_getR dX4_close_87 fl_CustomValley_Rests_39 rfl rfl ?_
    refine wp_iload dX4_close_90 rfl ?_
    have s2 := h.1
    replace h := h.2
    refine wp_iaload dX4_close_92 rfl rfl s2.1 s2.2 ?_
    refine wp_iload dX4_close_93 rfl ?_
    refine wp_if_eq (tgt := 105) dX4_close_95 (by decide) (fun hc => ?_) (fun hc => ?_)
    · replace h := h.1 hc
      refine wp_iload_n dX4_close_105 rfl rfl ?_
      exact h
    · replace h := h.2 hc
      refine wp_aload_n dX4_close_98 rfl rfl ?_
      refine wp_getI dX4_close_99 fl_CustomValley_Rests_42 rfl rfl rfl ?_
      refine wp_goto (tgt := 106) dX4_close_102 (by decide) ?_
      exact h
theorem b_X4_close_106 {i : Nat} {x2 : Int} {x3 : Int} {x5 : Int} {x6 : Int} {t0 : Int} {t1 : Int} {σ : St} {Q : Res → St → Prop} (h : (0 ≤ t1 ∧ t1 < 1024) ∧ ((0 ≤ x6 ∧ x6 < 1024) ∧ (((x5 = 0) → ((0 ≤ σ 36 i x6.toNat ∧ (σ 36 i x6.toNat) < 1024) ∧ ((in32 (x6 + 1)) ∧ (WP mX4_close 73 [vR 5 i, vU, vI x2, vI x3, vU, vI x5, vI (x6 + 1)] [] (up (up σ 28 i t1.toNat t0) 27 i ((σ 36 i x6.toNat).toNat) (-1)) Q)))) ∧ ((x5 ≠ 0) → ((0 ≤ σ 36 i x6.toNat ∧ (σ 36 i x6.toNat) < 1024) ∧ ((in32 (x6 + 1)) ∧ (WP mX4_close 73 [vR 5 i, vU, vI x2, vI x3, vU, vI x5, vI (x6 + 1)] [] (up (up σ 28 i t1.toNat t0) 27 i ((σ 36 i x6.toNat).toNat) (σ 5 i 0)) Q))))))) : WP mX4_close 106 [vR 5 i, vU, vI x2, vI x3, vU, vI x5, vI x6] [vI t0, vI t1, vR 28 i] σ Q := by
  have s6 := h.1
  replace h := h.2
  refine wp_iastore dX4_close_106 rfl rfl s6.1 s6.2 ?_
  refine wp_aload_n dX4_close_107 rfl rfl ?_
  refine wp_getR dX4_close_108 fl_CustomValley_Rests_9 rfl rfl ?_
  refine wp_aload_n dX4_close_111 rfl rfl ?_
  refine wp_getR dX4_close_112 fl_CustomValley_Rests_39 rfl rfl ?_
  refine wp_iload dX4_close_115 rfl ?_
  have s5 := h.1
  replace h := h.2
  refine wp_iaload dX4_close_117 rfl rfl s5.1 s5.2 ?_
  rw [show (up σ 28 i t1.toNat t0) 36 i x6.toNat = σ 36 i x6.toNat from by simp [up]]
  refine wp_iload dX4_close_118 rfl ?_
  refine wp_if_eq (tgt := 130) dX4_close_120 (by decide) (fun hc => ?_) (fun hc => ?_)
  · replace h := h.1 hc
    refine wp_iconst dX4_close_130 rfl ?_
    have s2 := h.1
    replace h := h.2
    refine wp_iastore dX4_close_131 rfl rfl s2.1 s2.2 ?_
    have s1 := h.1
    replace h := h.2
    refine wp_iinc dX4_close_132 rfl (by decide) rfl rfl ?_ (h1 := s1.1) (h2 := s1.2)
    refine wp_goto (tgt := 73) dX4_close_135 (by decide) ?_
    exact h
  · replace h := h.2 hc
    refine wp_aload_n dX4_close_123 rfl rfl ?_
    refine wp_getI dX4_close_124 fl_CustomValley_Rests_42 rfl rfl rfl ?_
    rw [show (up σ 28 i t1.toNat t0) 5 i 0 = σ 5 i 0 from by simp [up]]
    refine wp_goto (tgt := 131) dX4_close_127 (by decide) ?_
    have s4 := h.1
    replace h := h.2
    refine wp_iastore dX4_close_131 rfl rfl s4.1 s4.2 ?_
    have s3 := h.1
    replace h := h.2
    refine wp_iinc dX4_close_132 rfl (by decide) rfl rfl ?_ (h1 := s3.1) (h2 := s3.2)
    refine wp_goto (tgt := 73) dX4_close_135 (by decide) ?_
    exact h
theorem dX4_gather_0 : decode cX4_gather 0 = .ok (.aload_n 0, 1) := by decide +kernel
theorem dX4_gather_1 : decode cX4_gather 1 = .ok (.getfield 21, 3) := by decide +kernel
theorem dX4_gather_4 : decode cX4_gather 4 = .ok (.aload_n 0, 1) := by decide +kernel
theorem dX4_gather_5 : decode cX4_gather 5 = .ok (.getfield 42, 3) := by decide +kernel
theorem dX4_gather_8 : decode cX4_gather 8 = .ok (.iconst 1, 1) := by decide +kernel
theorem dX4_gather_9 : decode cX4_gather 9 = .ok (.iadd, 1) := by decide +kernel
theorem dX4_gather_10 : decode cX4_gather 10 = .ok (.iconst 0, 1) := by decide +kernel
theorem dX4_gather_11 : decode cX4_gather 11 = .ok (.invokestatic 66, 3) := by decide +kernel
theorem dX4_gather_14 : decode cX4_gather 14 = .ok (.aload_n 0, 1) := by decide +kernel
theorem dX4_gather_15 : decode cX4_gather 15 = .ok (.getfield 24, 3) := by decide +kernel
theorem dX4_gather_18 : decode cX4_gather 18 = .ok (.aload_n 0, 1) := by decide +kernel
theorem dX4_gather_19 : decode cX4_gather 19 = .ok (.getfield 42, 3) := by decide +kernel
theorem dX4_gather_22 : decode cX4_gather 22 = .ok (.iconst 0, 1) := by decide +kernel
theorem dX4_gather_23 : decode cX4_gather 23 = .ok (.invokestatic 66, 3) := by decide +kernel
theorem dX4_gather_26 : decode cX4_gather 26 = .ok (.iconst 0, 1) := by decide +kernel
theorem dX4_gather_27 : decode cX4_gather 27 = .ok (.istore_n 2, 1) := by decide +kernel
theorem dX4_gather_28 : decode cX4_gather 28 = .ok (.iload_n 2, 1) := by decide +kernel
theorem dX4_gather_29 : decode cX4_gather 29 = .ok (.aload_n 1, 1) := by decide +kernel
theorem dX4_gather_30 : decode cX4_gather 30 = .ok (.getfield 70, 3) := by decide +kernel
theorem dX4_gather_33 : decode cX4_gather 33 = .ok (.if_icmp .ge 66, 3) := by decide +kernel
theorem dX4_gather_36 : decode cX4_gather 36 = .ok (.aload_n 1, 1) := by decide +kernel
theorem dX4_gather_37 : decode cX4_gather 37 = .ok (.getfield 73, 3) := by decide +kernel
theorem dX4_gather_40 : decode cX4_gather 40 = .ok (.iload_n 2, 1) := by decide +kernel
theorem dX4_gather_41 : decode cX4_gather 41 = .ok (.iaload, 1) := by decide +kernel
theorem dX4_gather_42 : decode cX4_gather 42 = .ok (.istore_n 3, 1) := by decide +kernel
theorem dX4_gather_43 : decode cX4_gather 43 = .ok (.aload_n 0, 1) := by decide +kernel
theorem dX4_gather_44 : decode cX4_gather 44 = .ok (.getfield 9, 3) := by decide +kernel
theorem dX4_gather_47 : decode cX4_gather 47 = .ok (.iload_n 3, 1) := by decide +kernel
theorem dX4_gather_48 : decode cX4_gather 48 = .ok (.iaload, 1) := by decide +kernel
theorem dX4_gather_49 : decode cX4_gather 49 = .ok (.ifCond .lt 20, 3) := by decide +kernel
theorem dX4_gather_52 : decode cX4_gather 52 = .ok (.aload_n 0, 1) := by decide +kernel
theorem dX4_gather_53 : decode cX4_gather 53 = .ok (.getfield 21, 3) := by decide +kernel
theorem dX4_gather_56 : decode cX4_gather 56 = .ok (.aload_n 0, 1) := by decide +kernel
theorem dX4_gather_57 : decode cX4_gather 57 = .ok (.getfield 9, 3) := by decide +kernel
theorem dX4_gather_60 : decode cX4_gather 60 = .ok (.iload_n 3, 1) := by decide +kernel
theorem dX4_gather_61 : decode cX4_gather 61 = .ok (.iaload, 1) := by decide +kernel
theorem dX4_gather_62 : decode cX4_gather 62 = .ok (.iconst 1, 1) := by decide +kernel
theorem dX4_gather_63 : decode cX4_gather 63 = .ok (.iadd, 1) := by decide +kernel
theorem dX4_gather_64 : decode cX4_gather 64 = .ok (.dup2, 1) := by decide +kernel
theorem dX4_gather_65 : decode cX4_gather 65 = .ok (.iaload, 1) := by decide +kernel
theorem dX4_gather_66 : decode cX4_gather 66 = .ok (.iconst 1, 1) := by decide +kernel
theorem dX4_gather_67 : decode cX4_gather 67 = .ok (.iadd, 1) := by decide +kernel
theorem dX4_gather_68 : decode cX4_gather 68 = .ok (.iastore, 1) := by decide +kernel
theorem dX4_gather_69 : decode cX4_gather 69 = .ok (.aload_n 0, 1) := by decide +kernel
theorem dX4_gather_70 : decode cX4_gather 70 = .ok (.getfield 15, 3) := by decide +kernel
theorem dX4_gather_73 : decode cX4_gather 73 = .ok (.iload_n 3, 1) := by decide +kernel
theorem dX4_gather_74 : decode cX4_gather 74 = .ok (.iaload, 1) := by decide +kernel
theorem dX4_gather_75 : decode cX4_gather 75 = .ok (.ifCond .lt 18, 3) := by decide +kernel
theorem dX4_gather_78 : decode cX4_gather 78 = .ok (.aload_n 0, 1) := by decide +kernel
theorem dX4_gather_79 : decode cX4_gather 79 = .ok (.getfield 24, 3) := by decide +kernel
theorem dX4_gather_82 : decode cX4_gather 82 = .ok (.aload_n 0, 1) := by decide +kernel
theorem dX4_gather_83 : decode cX4_gather 83 = .ok (.getfield 15, 3) := by decide +kernel
theorem dX4_gather_86 : decode cX4_gather 86 = .ok (.iload_n 3, 1) := by decide +kernel
theorem dX4_gather_87 : decode cX4_gather 87 = .ok (.iaload, 1) := by decide +kernel
theorem dX4_gather_88 : decode cX4_gather 88 = .ok (.dup2, 1) := by decide +kernel
theorem dX4_gather_89 : decode cX4_gather 89 = .ok (.iaload, 1) := by decide +kernel
theorem dX4_gather_90 : decode cX4_gather 90 = .ok (.iconst 1, 1) := by decide +kernel
theorem dX4_gather_91 : decode cX4_gather 91 = .ok (.iadd, 1) := by decide +kernel
theorem dX4_gather_92 : decode cX4_gather 92 = .ok (.iastore, 1) := by decide +kernel
theorem dX4_gather_93 : decode cX4_gather 93 = .ok (.iinc 2 1, 3) := by decide +kernel
theorem dX4_gather_96 : decode cX4_gather 96 = .ok (.goto (-68), 3) := by decide +kernel
theorem dX4_gather_99 : decode cX4_gather 99 = .ok (.iconst 0, 1) := by decide +kernel
theorem dX4_gather_100 : decode cX4_gather 100 = .ok (.istore_n 2, 1) := by decide +kernel
theorem dX4_gather_101 : decode cX4_gather 101 = .ok (.iload_n 2, 1) := by decide +kernel
theorem dX4_gather_102 : decode cX4_gather 102 = .ok (.aload_n 0, 1) := by decide +kernel
theorem dX4_gather_103 : decode cX4_gather 103 = .ok (.getfield 42, 3) := by decide +kernel
theorem dX4_gather_106 : decode cX4_gather 106 = .ok (.if_icmp .ge 38, 3) := by decide +kernel
theorem dX4_gather_109 : decode cX4_gather 109 = .ok (.aload_n 0, 1) := by decide +kernel
theorem dX4_gather_110 : decode cX4_gather 110 = .ok (.getfield 21, 3) := by decide +kernel
theorem dX4_gather_113 : decode cX4_gather 113 = .ok (.iload_n 2, 1) := by decide +kernel
theorem dX4_gather_114 : decode cX4_gather 114 = .ok (.iconst 1, 1) := by decide +kernel
theorem dX4_gather_115 : decode cX4_gather 115 = .ok (.iadd, 1) := by decide +kernel
theorem dX4_gather_116 : decode cX4_gather 116 = .ok (.dup2, 1) := by decide +kernel
theorem dX4_gather_117 : decode cX4_gather 117 = .ok (.iaload, 1) := by decide +kernel
theorem dX4_gather_118 : decode cX4_gather 118 = .ok (.aload_n 0, 1) := by decide +kernel
theorem dX4_gather_119 : decode cX4_gather 119 = .ok (.getfield 21, 3) := by decide +kernel
theorem dX4_gather_122 : decode cX4_gather 122 = .ok (.iload_n 2, 1) := by decide +kernel
theorem dX4_gather_123 : decode cX4_gather 123 = .ok (.iaload, 1) := by decide +kernel
theorem dX4_gather_124 : decode cX4_gather 124 = .ok (.iadd, 1) := by decide +kernel
theorem dX4_gather_125 : decode cX4_gather 125 = .ok (.iastore, 1) := by decide +kernel
theorem dX4_gather_126 : decode cX4_gather 126 = .ok (.aload_n 0, 1) := by decide +kernel
theorem dX4_gather_127 : decode cX4_gather 127 = .ok (.getfield 30, 3) := by decide +kernel
theorem dX4_gather_130 : decode cX4_gather 130 = .ok (.iload_n 2, 1) := by decide +kernel
theorem dX4_gather_131 : decode cX4_gather 131 = .ok (.aload_n 0, 1) := by decide +kernel
theorem dX4_gather_132 : decode cX4_gather 132 = .ok (.getfield 21, 3) := by decide +kernel
theorem dX4_gather_135 : decode cX4_gather 135 = .ok (.iload_n 2, 1) := by decide +kernel
theorem dX4_gather_136 : decode cX4_gather 136 = .ok (.iaload, 1) := by decide +kernel
theorem dX4_gather_137 : decode cX4_gather 137 = .ok (.iastore, 1) := by decide +kernel
theorem dX4_gather_138 : decode cX4_gather 138 = .ok (.iinc 2 1, 3) := by decide +kernel
theorem dX4_gather_141 : decode cX4_gather 141 = .ok (.goto (-40), 3) := by decide +kernel
theorem dX4_gather_144 : decode cX4_gather 144 = .ok (.iconst 0, 1) := by decide +kernel
theorem dX4_gather_145 : decode cX4_gather 145 = .ok (.istore_n 2, 1) := by decide +kernel
theorem dX4_gather_146 : decode cX4_gather 146 = .ok (.iload_n 2, 1) := by decide +kernel
theorem dX4_gather_147 : decode cX4_gather 147 = .ok (.aload_n 1, 1) := by decide +kernel
theorem dX4_gather_148 : decode cX4_gather 148 = .ok (.getfield 70, 3) := by decide +kernel
theorem dX4_gather_151 : decode cX4_gather 151 = .ok (.if_icmp .ge 57, 3) := by decide +kernel
theorem dX4_gather_154 : decode cX4_gather 154 = .ok (.aload_n 1, 1) := by decide +kernel
theorem dX4_gather_155 : decode cX4_gather 155 = .ok (.getfield 73, 3) := by decide +kernel
theorem dX4_gather_158 : decode cX4_gather 158 = .ok (.iload_n 2, 1) := by decide +kernel
theorem dX4_gather_159 : decode cX4_gather 159 = .ok (.iaload, 1) := by decide +kernel
theorem dX4_gather_160 : decode cX4_gather 160 = .ok (.istore_n 3, 1) := by decide +kernel
theorem dX4_gather_161 : decode cX4_gather 161 = .ok (.aload_n 0, 1) := by decide +kernel
theorem dX4_gather_162 : decode cX4_gather 162 = .ok (.getfield 9, 3) := by decide +kernel
theorem dX4_gather_165 : decode cX4_gather 165 = .ok (.iload_n 3, 1) := by decide +kernel
theorem dX4_gather_166 : decode cX4_gather 166 = .ok (.iaload, 1) := by decide +kernel
theorem dX4_gather_167 : decode cX4_gather 167 = .ok (.ifCond .lt 35, 3) := by decide +kernel
theorem dX4_gather_170 : decode cX4_gather 170 = .ok (.aload_n 0, 1) := by decide +kernel
theorem dX4_gather_171 : decode cX4_gather 171 = .ok (.getfield 18, 3) := by decide +kernel
theorem dX4_gather_174 : decode cX4_gather 174 = .ok (.aload_n 0, 1) := by decide +kernel
theorem dX4_gather_175 : decode cX4_gather 175 = .ok (.getfield 30, 3) := by decide +kernel
theorem dX4_gather_178 : decode cX4_gather 178 = .ok (.aload_n 0, 1) := by decide +kernel
theorem dX4_gather_179 : decode cX4_gather 179 = .ok (.getfield 9, 3) := by decide +kernel
theorem dX4_gather_182 : decode cX4_gather 182 = .ok (.iload_n 3, 1) := by decide +kernel
theorem dX4_gather_183 : decode cX4_gather 183 = .ok (.iaload, 1) := by decide +kernel
theorem dX4_gather_184 : decode cX4_gather 184 = .ok (.iaload, 1) := by decide +kernel
theorem dX4_gather_185 : decode cX4_gather 185 = .ok (.iload_n 3, 1) := by decide +kernel
theorem dX4_gather_186 : decode cX4_gather 186 = .ok (.iastore, 1) := by decide +kernel
theorem dX4_gather_187 : decode cX4_gather 187 = .ok (.aload_n 0, 1) := by decide +kernel
theorem dX4_gather_188 : decode cX4_gather 188 = .ok (.getfield 30, 3) := by decide +kernel
theorem dX4_gather_191 : decode cX4_gather 191 = .ok (.aload_n 0, 1) := by decide +kernel
theorem dX4_gather_192 : decode cX4_gather 192 = .ok (.getfield 9, 3) := by decide +kernel
theorem dX4_gather_195 : decode cX4_gather 195 = .ok (.iload_n 3, 1) := by decide +kernel
theorem dX4_gather_196 : decode cX4_gather 196 = .ok (.iaload, 1) := by decide +kernel
theorem dX4_gather_197 : decode cX4_gather 197 = .ok (.dup2, 1) := by decide +kernel
theorem dX4_gather_198 : decode cX4_gather 198 = .ok (.iaload, 1) := by decide +kernel
theorem dX4_gather_199 : decode cX4_gather 199 = .ok (.iconst 1, 1) := by decide +kernel
theorem dX4_gather_200 : decode cX4_gather 200 = .ok (.iadd, 1) := by decide +kernel
theorem dX4_gather_201 : decode cX4_gather 201 = .ok (.iastore, 1) := by decide +kernel
theorem dX4_gather_202 : decode cX4_gather 202 = .ok (.iinc 2 1, 3) := by decide +kernel
theorem dX4_gather_205 : decode cX4_gather 205 = .ok (.goto (-59), 3) := by decide +kernel
theorem dX4_gather_208 : decode cX4_gather 208 = .ok (.return_, 1) := by decide +kernel
theorem b_X4_gather_0 {i : Nat} {j : Nat} {σ : St} {Q : Res → St → Prop} (h : (in32 ((σ 5 i 0) + 1)) ∧ (WP mX11_fillTo 0 [vR 30 i, vI ((σ 5 i 0) + 1), vI 0, vU] [] σ (CT mX4_gather 14 [vR 5 i, vR 10 j, vU, vU] [] Q))) : WP mX4_gather 0 [vR 5 i, vR 10 j, vU, vU] [] σ Q := by
  refine wp_aload_n dX4_gather_0 rfl rfl ?_
  refine wp_getR dX4_gather_1 fl_CustomValley_Rests_21 rfl rfl ?_
  refine wp_aload_n dX4_gather_4 rfl rfl ?_
  refine wp_getI dX4_gather_5 fl_CustomValley_Rests_42 rfl rfl rfl ?_
  refine wp_iconst dX4_gather_8 rfl ?_
  have s1 := h.1
  replace h := h.2
  refine wp_iadd dX4_gather_9 ?_ (h1 := s1.1) (h2 := s1.2)
  refine wp_iconst dX4_gather_10 rfl ?_
  refine wp_invN (N := mX11_fillTo) [vR 30 i, vI ((σ 5 i 0) + 1), vI 0] dX4_gather_11 mn_CustomValley_Rests_66 mvX11_fillTo rfl rfl rfl (Nat.le_of_ble_eq_true rfl) (Nat.le_of_ble_eq_true rfl) (by decide) (by decide) ?_
  exact h
theorem b_X4_gather_14 {i : Nat} {j : Nat} {σ : St} {Q : Res → St → Prop} (h : WP mX11_fillTo 0 [vR 31 i, vI (σ 5 i 0), vI 0, vU] [] σ (CT mX4_gather 26 [vR 5 i, vR 10 j, vU, vU] [] Q)) : WP mX4_gather 14 [vR 5 i, vR 10 j, vU, vU] [] σ Q := by
  refine wp_aload_n dX4_gather_14 rfl rfl ?_
  refine wp_getR dX4_gather_15 fl_CustomValley_Rests_24 rfl rfl ?_
  refine wp_aload_n dX4_gather_18 rfl rfl ?_
  refine wp_getI dX4_gather_19 fl_CustomValley_Rests_42 rfl rfl rfl ?_
  refine wp_iconst dX4_gather_22 rfl ?_
  refine wp_invN (N := mX11_fillTo) [vR 31 i, vI (σ 5 i 0), vI 0] dX4_gather_23 mn_CustomValley_Rests_66 mvX11_fillTo rfl rfl rfl (Nat.le_of_ble_eq_true rfl) (Nat.le_of_ble_eq_true rfl) (by decide) (by decide) ?_
  exact h
theorem b_X4_gather_26 {i : Nat} {j : Nat} {σ : St} {Q : Res → St → Prop} (h : WP mX4_gather 28 [vR 5 i, vR 10 j, vI 0, vU] [] σ Q) : WP mX4_gather 26 [vR 5 i, vR 10 j, vU, vU] [] σ Q := by
  refine wp_iconst dX4_gather_26 rfl ?_
  refine wp_istore_n dX4_gather_27 rfl (by decide) rfl rfl ?_
  exact h
theorem b_X4_gather_28 {i : Nat} {j : Nat} {x2 : Int} {σ : St} {Q : Res → St → Prop} (h : (((σ 10 j 12) ≤ x2) → (WP mX4_gather 101 [vR 5 i, vR 10 j, vI 0, vU] [] σ Q)) ∧ ((x2 < (σ 10 j 12)) → ((0 ≤ x2 ∧ x2 < 1024) ∧ ((0 ≤ σ 61 j x2.toNat ∧ (σ 61 j x2.toNat) < 1024) ∧ ((((σ 27 i ((σ 61 j x2.toNat).toNat)) < 0) → (WP mX4_gather 69 [vR 5 i, vR 10 j, vI x2, vI (σ 61 j x2.toNat)] [] σ Q)) ∧ ((0 ≤ (σ 27 i ((σ 61 j x2.toNat).toNat))) → ((0 ≤ σ 61 j x2.toNat ∧ (σ 61 j x2.toNat) < 1024) ∧ ((in32 ((σ 27 i ((σ 61 j x2.toNat).toNat)) + 1)) ∧ ((0 ≤ (σ 27 i ((σ 61 j x2.toNat).toNat)) + 1 ∧ ((σ 27 i ((σ 61 j x2.toNat).toNat)) + 1) < 1025) ∧ ((in32 ((σ 30 i (((σ 27 i ((σ 61 j x2.toNat).toNat)) + 1).toNat)) + 1)) ∧ ((0 ≤ (σ 27 i ((σ 61 j x2.toNat).toNat)) + 1 ∧ ((σ 27 i ((σ 61 j x2.toNat).toNat)) + 1) < 1025) ∧ (WP mX4_gather 69 [vR 5 i, vR 10 j, vI x2, vI (σ 61 j x2.toNat)] [] (up σ 30 i (((σ 27 i ((σ 61 j x2.toNat).toNat)) + 1).toNat) ((σ 30 i (((σ 27 i ((σ 61 j x2.toNat).toNat)) + 1).toNat)) + 1)) Q)))))))))))) : WP mX4_gather 28 [vR 5 i, vR 10 j, vI x2, vU] [] σ Q := by
  refine wp_iload_n dX4_gather_28 rfl rfl ?_
  refine wp_aload_n dX4_gather_29 rfl rfl ?_
  refine wp_getI dX4_gather_30 fl_CustomValley_Rests_70 rfl rfl rfl ?_
  refine wp_icmp_ge (tgt := 99) dX4_gather_33 (by decide) (fun hc => ?_) (fun hc => ?_)
  · replace h := h.1 hc
    refine wp_iconst dX4_gather_99 rfl ?_
    refine wp_istore_n dX4_gather_100 rfl (by decide) rfl rfl ?_
    exact h
  · replace h := h.2 hc
    refine wp_aload_n dX4_gather_36 rfl rfl ?_
    refine wp_getR dX4_gather_37 fl_CustomValley_Rests_73 rfl rfl ?_
    refine wp_iload_n dX4_gather_40 rfl rfl ?_
    have s7 := h.1
    replace h := h.2
    refine wp_iaload dX4_gather_41 rfl rfl s7.1 s7.2 ?_
    refine wp_istore_n dX4_gather_42 rfl (by decide) rfl rfl ?_
    refine wp_aload_n dX4_gather_43 rfl rfl ?_
    refine wp_getR dX4_gather_44 fl_CustomValley_Rests_9 rfl rfl ?_
    refine wp_iload_n dX4_gather_47 rfl rfl ?_
    have s6 := h.1
    replace h := h.2
    refine wp_iaload dX4_gather_48 rfl rfl s6.1 s6.2 ?_
    refine wp_if_lt (tgt := 69) dX4_gather_49 (by decide) (fun hc => ?_) (fun hc => ?_)
    · replace h := h.1 hc
      exact h
    · replace h := h.2 hc
      refine wp_aload_n dX4_gather_52 rfl rfl ?_
      refine wp_getR dX4_gather_53 fl_CustomValley_Rests_21 rfl rfl ?_
      refine wp_aload_n dX4_gather_56 rfl rfl ?_
      refine wp_getR dX4_gather_57 fl_CustomValley_Rests_9 rfl rfl ?_
      refine wp_iload_n dX4_gather_60 rfl rfl ?_
      have s5 := h.1
      replace h := h.2
      refine wp_iaload dX4_gather_61 rfl rfl s5.1 s5.2 ?_
      refine wp_iconst dX4_gather_62 rfl ?_
      have s4 := h.1
      replace h := h.2
      refine wp_iadd dX4_gather_63 ?_ (h1 := s4.1) (h2 := s4.2)
      refine wp_dup2 dX4_gather_64 ?_
      have s3 := h.1
      replace h := h.2
      refine wp_iaload dX4_gather_65 rfl rfl s3.1 s3.2 ?_
      refine wp_iconst dX4_gather_66 rfl ?_
      have s2 := h.1
      replace h := h.2
      refine wp_iadd dX4_gather_67 ?_ (h1 := s2.1) (h2 := s2.2)
      have s1 := h.1
      replace h := h.2
      refine wp_iastore dX4_gather_68 rfl rfl s1.1 s1.2 ?_
      exact h
theorem b_X4_gather_69 {i : Nat} {j : Nat} {x2 : Int} {x3 : Int} {σ : St} {Q : Res → St → Prop} (h : (0 ≤ x3 ∧ x3 < 1024) ∧ ((((σ 28 i x3.toNat) < 0) → ((in32 (x2 + 1)) ∧ (WP mX4_gather 28 [vR 5 i, vR 10 j, vI (x2 + 1), vU] [] σ Q))) ∧ ((0 ≤ (σ 28 i x3.toNat)) → ((0 ≤ x3 ∧ x3 < 1024) ∧ ((0 ≤ σ 28 i x3.toNat ∧ (σ 28 i x3.toNat) < 1024) ∧ ((in32 ((σ 31 i ((σ 28 i x3.toNat).toNat)) + 1)) ∧ ((0 ≤ σ 28 i x3.toNat ∧ (σ 28 i x3.toNat) < 1024) ∧ ((in32 (x2 + 1)) ∧ (WP mX4_gather 28 [vR 5 i, vR 10 j, vI (x2 + 1), vU] [] (up σ 31 i ((σ 28 i x3.toNat).toNat) ((σ 31 i ((σ 28 i x3.toNat).toNat)) + 1)) Q))))))))) : WP mX4_gather 69 [vR 5 i, vR 10 j, vI x2, vI x3] [] σ Q := by
  refine wp_aload_n dX4_gather_69 rfl rfl ?_
  refine wp_getR dX4_gather_70 fl_CustomValley_Rests_15 rfl rfl ?_
  refine wp_iload_n dX4_gather_73 rfl rfl ?_
  have s7 := h.1
  replace h := h.2
  refine wp_iaload dX4_gather_74 rfl rfl s7.1 s7.2 ?_
  refine wp_if_lt (tgt := 93) dX4_gather_75 (by decide) (fun hc => ?_) (fun hc => ?_)
  · replace h := h.1 hc
    have s1 := h.1
    replace h := h.2
    refine wp_iinc dX4_gather_93 rfl (by decide) rfl rfl ?_ (h1 := s1.1) (h2 := s1.2)
    refine wp_goto (tgt := 28) dX4_gather_96 (by decide) ?_
    exact wp_drop (als' := [vR 5 i, vR 10 j, vI (x2 + 1), vU]) (lle_c (Or.inl rfl) (lle_c (Or.inl rfl) (lle_c (Or.inl rfl) (lle_c (Or.inr rfl) lle_n)))) h
  · replace h := h.2 hc
    refine wp_aload_n dX4_gather_78 rfl rfl ?_
    refine wp_getR dX4_gather_79 fl_CustomValley_Rests_24 rfl rfl ?_
    refine wp_aload_n dX4_gather_82 rfl rfl ?_
    refine wp_getR dX4_gather_83 fl_CustomValley_Rests_15 rfl rfl ?_
    refine wp_iload_n dX4_gather_86 rfl rfl ?_
    have s6 := h.1
    replace h := h.2
    refine wp_iaload dX4_gather_87 rfl rfl s6.1 s6.2 ?_
    refine wp_dup2 dX4_gather_88 ?_
    have s5 := h.1
    replace h := h.2
    refine wp_iaload dX4_gather_89 rfl rfl s5.1 s5.2 ?_
    refine wp_iconst dX4_gather_90 rfl ?_
    have s4 := h.1
    replace h := h.2
    refine wp_iadd dX4_gather_91 ?_ (h1 := s4.1) (h2 := s4.2)
    have s3 := h.1
    replace h := h.2
    refine wp_iastore dX4_gather_92 rfl rfl s3.1 s3.2 ?_
    have s2 := h.1
    replace h := h.2
    refine wp_iinc dX4_gather_93 rfl (by decide) rfl rfl ?_ (h1 := s2.1) (h2 := s2.2)
    refine wp_goto (tgt := 28) dX4_gather_96 (by decide) ?_
    exact wp_drop (als' := [vR 5 i, vR 10 j, vI (x2 + 1), vU]) (lle_c (Or.inl rfl) (lle_c (Or.inl rfl) (lle_c (Or.inl rfl) (lle_c (Or.inr rfl) lle_n)))) h
theorem b_X4_gather_101 {i : Nat} {j : Nat} {x2 : Int} {σ : St} {Q : Res → St → Prop} (h : (((σ 5 i 0) ≤ x2) → (WP mX4_gather 146 [vR 5 i, vR 10 j, vI 0, vU] [] σ Q)) ∧ ((x2 < (σ 5 i 0)) → ((in32 (x2 + 1)) ∧ ((0 ≤ x2 + 1 ∧ (x2 + 1) < 1025) ∧ ((0 ≤ x2 ∧ x2 < 1025) ∧ ((in32 ((σ 30 i ((x2 + 1).toNat)) + (σ 30 i x2.toNat))) ∧ ((0 ≤ x2 + 1 ∧ (x2 + 1) < 1025) ∧ ((0 ≤ x2 ∧ x2 < 1025) ∧ ((0 ≤ x2 ∧ x2 < 1024) ∧ ((in32 (x2 + 1)) ∧ (WP mX4_gather 101 [vR 5 i, vR 10 j, vI (x2 + 1), vU] [] (up (up σ 30 i ((x2 + 1).toNat) ((σ 30 i ((x2 + 1).toNat)) + (σ 30 i x2.toNat))) 33 i x2.toNat ((up σ 30 i ((x2 + 1).toNat) ((σ 30 i ((x2 + 1).toNat)) + (σ 30 i x2.toNat))) 30 i x2.toNat)) Q))))))))))) : WP mX4_gather 101 [vR 5 i, vR 10 j, vI x2, vU] [] σ Q := by
  refine wp_iload_n dX4_gather_101 rfl rfl ?_
  refine wp_aload_n dX4_gather_102 rfl rfl ?_
  refine wp_getI dX4_gather_103 fl_CustomValley_Rests_42 rfl rfl rfl ?_
  refine wp_icmp_ge (tgt := 144) dX4_gather_106 (by decide) (fun hc => ?_) (fun hc => ?_)
  · replace h := h.1 hc
    refine wp_iconst dX4_gather_144 rfl ?_
    refine wp_istore_n dX4_gather_145 rfl (by decide) rfl rfl ?_
    exact h
  · replace h := h.2 hc
    refine wp_aload_n dX4_gather_109 rfl rfl ?_
    refine wp_getR dX4_gather_110 fl_CustomValley_Rests_21 rfl rfl ?_
    refine wp_iload_n dX4_gather_113 rfl rfl ?_
    refine wp_iconst dX4_gather_114 rfl ?_
    have s8 := h.1
    replace h := h.2
    refine wp_iadd dX4_gather_115 ?_ (h1 := s8.1) (h2 := s8.2)
    refine wp_dup2 dX4_gather_116 ?_
    have s7 := h.1
    replace h := h.2
    refine wp_iaload dX4_gather_117 rfl rfl s7.1 s7.2 ?_
    refine wp_aload_n dX4_gather_118 rfl rfl ?_
    refine wp_getR dX4_gather_119 fl_CustomValley_Rests_21 rfl rfl ?_
    refine wp_iload_n dX4_gather_122 rfl rfl ?_
    have s6 := h.1
    replace h := h.2
    refine wp_iaload dX4_gather_123 rfl rfl s6.1 s6.2 ?_
    have s5 := h.1
    replace h := h.2
    refine wp_iadd dX4_gather_124 ?_ (h1 := s5.1) (h2 := s5.2)
    have s4 := h.1
    replace h := h.2
    refine wp_iastore dX4_gather_125 rfl rfl s4.1 s4.2 ?_
    refine wp_aload_n dX4_gather_126 rfl rfl ?_
    refine wp_getR dX4_gather_127 fl_CustomValley_Rests_30 rfl rfl ?_
    refine wp_iload_n dX4_gather_130 rfl rfl ?_
    refine wp_aload_n dX4_gather_131 rfl rfl ?_
    refine wp_getR dX4_gather_132 fl_CustomValley_Rests_21 rfl rfl ?_
    refine wp_iload_n dX4_gather_135 rfl rfl ?_
    have s3 := h.1
    replace h := h.2
    refine wp_iaload dX4_gather_136 rfl rfl s3.1 s3.2 ?_
    have s2 := h.1
    replace h := h.2
    refine wp_iastore dX4_gather_137 rfl rfl s2.1 s2.2 ?_
    have s1 := h.1
    replace h := h.2
    refine wp_iinc dX4_gather_138 rfl (by decide) rfl rfl ?_ (h1 := s1.1) (h2 := s1.2)
    refine wp_goto (tgt := 101) dX4_gather_141 (by decide) ?_
    exact h
theorem b_X4_gather_146 {i : Nat} {j : Nat} {x2 : Int} {σ : St} {Q : Res → St → Prop} (h : (((σ 10 j 12) ≤ x2) → (Q (.inl none) σ)) ∧ ((x2 < (σ 10 j 12)) → ((0 ≤ x2 ∧ x2 < 1024) ∧ ((0 ≤ σ 61 j x2.toNat ∧ (σ 61 j x2.toNat) < 1024) ∧ ((((σ 27 i ((σ 61 j x2.toNat).toNat)) < 0) → ((in32 (x2 + 1)) ∧ (WP mX4_gather 146 [vR 5 i, vR 10 j, vI (x2 + 1), vU] [] σ Q))) ∧ ((0 ≤ (σ 27 i ((σ 61 j x2.toNat).toNat))) → ((0 ≤ σ 61 j x2.toNat ∧ (σ 61 j x2.toNat) < 1024) ∧ ((0 ≤ σ 27 i ((σ 61 j x2.toNat).toNat) ∧ (σ 27 i ((σ 61 j x2.toNat).toNat)) < 1024) ∧ ((0 ≤ σ 33 i ((σ 27 i ((σ 61 j x2.toNat).toNat)).toNat) ∧ (σ 33 i ((σ 27 i ((σ 61 j x2.toNat).toNat)).toNat)) < 1024) ∧ ((0 ≤ σ 61 j x2.toNat ∧ (σ 61 j x2.toNat) < 1024) ∧ ((0 ≤ σ 27 i ((σ 61 j x2.toNat).toNat) ∧ (σ 27 i ((σ 61 j x2.toNat).toNat)) < 1024) ∧ ((in32 ((σ 33 i ((σ 27 i ((σ 61 j x2.toNat).toNat)).toNat)) + 1)) ∧ ((0 ≤ σ 27 i ((σ 61 j x2.toNat).toNat) ∧ (σ 27 i ((σ 61 j x2.toNat).toNat)) < 1024) ∧ ((in32 (x2 + 1)) ∧ (WP mX4_gather 146 [vR 5 i, vR 10 j, vI (x2 + 1), vU] [] (up (up σ 29 i ((σ 33 i ((σ 27 i ((σ 61 j x2.toNat).toNat)).toNat)).toNat) (σ 61 j x2.toNat)) 33 i ((σ 27 i ((σ 61 j x2.toNat).toNat)).toNat) ((σ 33 i ((σ 27 i ((σ 61 j x2.toNat).toNat)).toNat)) + 1)) Q))))))))))))))) : WP mX4_gather 146 [vR 5 i, vR 10 j, vI x2, vU] [] σ Q := by
  refine wp_iload_n dX4_gather_146 rfl rfl ?_
  refine wp_aload_n dX4_gather_147 rfl rfl ?_
  refine wp_getI dX4_gather_148 fl_CustomValley_Rests_70 rfl rfl rfl ?_
  refine wp_icmp_ge (tgt := 208) dX4_gather_151 (by decide) (fun hc => ?_) (fun hc => ?_)
  · replace h := h.1 hc
    exact wp_ret dX4_gather_208 rfl h
  · replace h := h.2 hc
    refine wp_aload_n dX4_gather_154 rfl rfl ?_
    refine wp_getR dX4_gather_155 fl_CustomValley_Rests_73 rfl rfl ?_
    refine wp_iload_n dX4_gather_158 rfl rfl ?_
    have s11 := h.1
    replace h := h.2
    refine wp_iaload dX4_gather_159 rfl rfl s11.1 s11.2 ?_
    refine wp_istore_n dX4_gather_160 rfl (by decide) rfl rfl ?_
    refine wp_aload_n dX4_gather_161 rfl rfl ?_
    refine wp_getR dX4_gather_162 fl_CustomValley_Rests_9 rfl rfl ?_
    refine wp_iload_n dX4_gather_165 rfl rfl ?_
    have s10 := h.1
    replace h := h.2
    refine wp_iaload dX4_gather_166 rfl rfl s10.1 s10.2 ?_
    refine wp_if_lt (tgt := 202) dX4_gather_167 (by decide) (fun hc => ?_) (fun hc => ?_)
    · replace h := h.1 hc
      have s1 := h.1
      replace h := h.2
      refine wp_iinc dX4_gather_202 rfl (by decide) rfl rfl ?_ (h1 := s1.1) (h2 := s1.2)
      refine wp_goto (tgt := 146) dX4_gather_205 (by decide) ?_
      exact wp_drop (als' := [vR 5 i, vR 10 j, vI (x2 + 1), vU]) (lle_c (Or.inl rfl) (lle_c (Or.inl rfl) (lle_c (Or.inl rfl) (lle_c (Or.inr rfl) lle_n)))) h
    · replace h := h.2 hc
      refine wp_aload_n dX4_gather_170 rfl rfl ?_
      refine wp_getR dX4_gather_171 fl_CustomValley_Rests_18 rfl rfl ?_
      refine wp_aload_n dX4_gather_174 rfl rfl ?_
      refine wp_getR dX4_gather_175 fl_CustomValley_Rests_30 rfl rfl ?_
      refine wp_aload_n dX4_gather_178 rfl rfl ?_
      refine wp_getR dX4_gather_179 fl_CustomValley_Rests_9 rfl rfl ?_
      refine wp_iload_n dX4_gather_182 rfl rfl ?_
      have s9 := h.1
      replace h := h.2
      refine wp_iaload dX4_gather_183 rfl rfl s9.1 s9.2 ?_
      have s8 := h.1
      replace h := h.2
      refine wp_iaload dX4_gather_184 rfl rfl s8.1 s8.2 ?_
      refine wp_iload_n dX4_gather_185 rfl rfl ?_
      have s7 := h.1
      replace h := h.2
      refine wp_iastore dX4_gather_186 rfl rfl s7.1 s7.2 ?_
      refine wp_aload_n dX4_gather_187 rfl rfl ?_
      refine wp_getR dX4_gather_188 fl_CustomValley_Rests_30 rfl rfl ?_
      refine wp_aload_n dX4_gather_191 rfl rfl ?_
      refine wp_getR dX4_gather_192 fl_CustomValley_Rests_9 rfl rfl ?_
      refine wp_iload_n dX4_gather_195 rfl rfl ?_
      have s6 := h.1
      replace h := h.2
      refine wp_iaload dX4_gather_196 rfl rfl s6.1 s6.2 ?_
      rw [show (up σ 29 i ((σ 33 i ((σ 27 i ((σ 61 j x2.toNat).toNat)).toNat)).toNat) (σ 61 j x2.toNat)) 27 i ((σ 61 j x2.toNat).toNat) = σ 27 i ((σ 61 j x2.toNat).toNat) from by simp [up]]
      refine wp_dup2 dX4_gather_197 ?_
      have s5 := h.1
      replace h := h.2
      refine wp_iaload dX4_gather_198 rfl rfl s5.1 s5.2 ?_
      rw [show (up σ 29 i ((σ 33 i ((σ 27 i ((σ 61 j x2.toNat).toNat)).toNat)).toNat) (σ 61 j x2.toNat)) 33 i ((σ 27 i ((σ 61 j x2.toNat).toNat)).toNat) = σ 33 i ((σ 27 i ((σ 61 j x2.toNat).toNat)).toNat) from by simp [up]]
      refine wp_iconst dX4_gather_199 rfl ?_
      have s4 := h.1
      replace h := h.2
      refine wp_iadd dX4_gather_200 ?_ (h1 := s4.1) (h2 := s4.2)
      have s3 := h.1
      replace h := h.2
      refine wp_iastore dX4_gather_201 rfl rfl s3.1 s3.2 ?_
      have s2 := h.1
      replace h := h.2
      refine wp_iinc dX4_gather_202 rfl (by decide) rfl rfl ?_ (h1 := s2.1) (h2 := s2.2)
      refine wp_goto (tgt := 146) dX4_gather_205 (by decide) ?_
      exact wp_drop (als' := [vR 5 i, vR 10 j, vI (x2 + 1), vU]) (lle_c (Or.inl rfl) (lle_c (Or.inl rfl) (lle_c (Or.inl rfl) (lle_c (Or.inr rfl) lle_n)))) h
theorem dX4_nextMove_0 : decode cX4_nextMove 0 = .ok (.aload_n 0, 1) := by decide +kernel
theorem dX4_nextMove_1 : decode cX4_nextMove 1 = .ok (.getfield 33, 3) := by decide +kernel
theorem dX4_nextMove_4 : decode cX4_nextMove 4 = .ok (.iload_n 2, 1) := by decide +kernel
theorem dX4_nextMove_5 : decode cX4_nextMove 5 = .ok (.iaload, 1) := by decide +kernel
theorem dX4_nextMove_6 : decode cX4_nextMove 6 = .ok (.aload_n 1, 1) := by decide +kernel
theorem dX4_nextMove_7 : decode cX4_nextMove 7 = .ok (.getfield 46, 3) := by decide +kernel
theorem dX4_nextMove_10 : decode cX4_nextMove 10 = .ok (.getfield 108, 3) := by decide +kernel
theorem dX4_nextMove_13 : decode cX4_nextMove 13 = .ok (.if_icmp .ge 62, 3) := by decide +kernel
theorem dX4_nextMove_16 : decode cX4_nextMove 16 = .ok (.aload_n 1, 1) := by decide +kernel
theorem dX4_nextMove_17 : decode cX4_nextMove 17 = .ok (.iload_n 2, 1) := by decide +kernel
theorem dX4_nextMove_18 : decode cX4_nextMove 18 = .ok (.aload_n 0, 1) := by decide +kernel
theorem dX4_nextMove_19 : decode cX4_nextMove 19 = .ok (.getfield 33, 3) := by decide +kernel
theorem dX4_nextMove_22 : decode cX4_nextMove 22 = .ok (.iload_n 2, 1) := by decide +kernel
theorem dX4_nextMove_23 : decode cX4_nextMove 23 = .ok (.iaload, 1) := by decide +kernel
theorem dX4_nextMove_24 : decode cX4_nextMove 24 = .ok (.invokevirtual 111, 3) := by decide +kernel
theorem dX4_nextMove_27 : decode cX4_nextMove 27 = .ok (.istore_n 3, 1) := by decide +kernel
theorem dX4_nextMove_28 : decode cX4_nextMove 28 = .ok (.aload_n 1, 1) := by decide +kernel
theorem dX4_nextMove_29 : decode cX4_nextMove 29 = .ok (.getfield 46, 3) := by decide +kernel
theorem dX4_nextMove_32 : decode cX4_nextMove 32 = .ok (.getfield 114, 3) := by decide +kernel
theorem dX4_nextMove_35 : decode cX4_nextMove 35 = .ok (.aload_n 0, 1) := by decide +kernel
theorem dX4_nextMove_36 : decode cX4_nextMove 36 = .ok (.getfield 33, 3) := by decide +kernel
theorem dX4_nextMove_39 : decode cX4_nextMove 39 = .ok (.iload_n 2, 1) := by decide +kernel
theorem dX4_nextMove_40 : decode cX4_nextMove 40 = .ok (.iaload, 1) := by decide +kernel
theorem dX4_nextMove_41 : decode cX4_nextMove 41 = .ok (.iaload, 1) := by decide +kernel
theorem dX4_nextMove_42 : decode cX4_nextMove 42 = .ok (.istore 4, 2) := by decide +kernel
theorem dX4_nextMove_44 : decode cX4_nextMove 44 = .ok (.aload_n 0, 1) := by decide +kernel
theorem dX4_nextMove_45 : decode cX4_nextMove 45 = .ok (.getfield 33, 3) := by decide +kernel
theorem dX4_nextMove_48 : decode cX4_nextMove 48 = .ok (.iload_n 2, 1) := by decide +kernel
theorem dX4_nextMove_49 : decode cX4_nextMove 49 = .ok (.dup2, 1) := by decide +kernel
theorem dX4_nextMove_50 : decode cX4_nextMove 50 = .ok (.iaload, 1) := by decide +kernel
theorem dX4_nextMove_51 : decode cX4_nextMove 51 = .ok (.iconst 1, 1) := by decide +kernel
theorem dX4_nextMove_52 : decode cX4_nextMove 52 = .ok (.iadd, 1) := by decide +kernel
theorem dX4_nextMove_53 : decode cX4_nextMove 53 = .ok (.iastore, 1) := by decide +kernel
theorem dX4_nextMove_54 : decode cX4_nextMove 54 = .ok (.iload_n 3, 1) := by decide +kernel
theorem dX4_nextMove_55 : decode cX4_nextMove 55 = .ok (.iload_n 2, 1) := by decide +kernel
theorem dX4_nextMove_56 : decode cX4_nextMove 56 = .ok (.if_icmp .eq 16, 3) := by decide +kernel
theorem dX4_nextMove_59 : decode cX4_nextMove 59 = .ok (.aload_n 1, 1) := by decide +kernel
theorem dX4_nextMove_60 : decode cX4_nextMove 60 = .ok (.iload_n 2, 1) := by decide +kernel
theorem dX4_nextMove_61 : decode cX4_nextMove 61 = .ok (.iload_n 3, 1) := by decide +kernel
theorem dX4_nextMove_62 : decode cX4_nextMove 62 = .ok (.iload 4, 2) := by decide +kernel
theorem dX4_nextMove_64 : decode cX4_nextMove 64 = .ok (.invokevirtual 117, 3) := by decide +kernel
theorem dX4_nextMove_67 : decode cX4_nextMove 67 = .ok (.ifCond .ne 5, 3) := by decide +kernel
theorem dX4_nextMove_70 : decode cX4_nextMove 70 = .ok (.iload_n 3, 1) := by decide +kernel
theorem dX4_nextMove_71 : decode cX4_nextMove 71 = .ok (.ireturn, 1) := by decide +kernel
theorem dX4_nextMove_72 : decode cX4_nextMove 72 = .ok (.goto (-72), 3) := by decide +kernel
theorem dX4_nextMove_75 : decode cX4_nextMove 75 = .ok (.iconst (-1), 1) := by decide +kernel
theorem dX4_nextMove_76 : decode cX4_nextMove 76 = .ok (.ireturn, 1) := by decide +kernel
theorem b_X4_nextMove_0 {i : Nat} {j : Nat} {x2 : Int} {σ : St} {Q : Res → St → Prop} (h : (0 ≤ x2 ∧ x2 < 1024) ∧ ((((σ 10 j 13) ≤ (σ 34 i x2.toNat)) → (Q (.inl (some (vI (-1)))) σ)) ∧ (((σ 34 i x2.toNat) < (σ 10 j 13)) → ((0 ≤ x2 ∧ x2 < 1024) ∧ ((0 ≤ σ 34 i x2.toNat ∧ (σ 34 i x2.toNat) < 40 ∧ in32 (x2 * 10) ∧ in32 ((x2 * 10) + (σ 58 j ((σ 34 i x2.toNat).toNat))) ∧ 0 ≤ (x2 * 10) + (σ 58 j ((σ 34 i x2.toNat).toNat)) ∧ ((x2 * 10) + (σ 58 j ((σ 34 i x2.toNat).toNat))) < 10240 ∧ 0 ≤ σ 34 i x2.toNat ∧ (σ 34 i x2.toNat) < 40 ∧ in32 ((σ 59 j ((σ 34 i x2.toNat).toNat)) - (shr (σ 23 j (((x2 * 10) + (σ 58 j ((σ 34 i x2.toNat).toNat))).toNat)) 4)) ∧ 0 ≤ σ 58 j ((σ 34 i x2.toNat).toNat) ∧ (σ 58 j ((σ 34 i x2.toNat).toNat)) < 11 ∧ in32 (((σ 59 j ((σ 34 i x2.toNat).toNat)) - (shr (σ 23 j (((x2 * 10) + (σ 58 j ((σ 34 i x2.toNat).toNat))).toNat)) 4)) * (σ 60 j ((σ 58 j ((σ 34 i x2.toNat).toNat)).toNat))) ∧ in32 (x2 + (((σ 59 j ((σ 34 i x2.toNat).toNat)) - (shr (σ 23 j (((x2 * 10) + (σ 58 j ((σ 34 i x2.toNat).toNat))).toNat)) 4)) * (σ 60 j ((σ 58 j ((σ 34 i x2.toNat).toNat)).toNat))))) ∧ ((0 ≤ x2 ∧ x2 < 1024) ∧ ((0 ≤ σ 34 i x2.toNat ∧ (σ 34 i x2.toNat) < 40) ∧ ((0 ≤ x2 ∧ x2 < 1024) ∧ ((in32 ((σ 34 i x2.toNat) + 1)) ∧ ((0 ≤ x2 ∧ x2 < 1024) ∧ ((((x2 + (((σ 59 j ((σ 34 i x2.toNat).toNat)) - (shr (σ 23 j (((x2 * 10) + (σ 58 j ((σ 34 i x2.toNat).toNat))).toNat)) 4)) * (σ 60 j ((σ 58 j ((σ 34 i x2.toNat).toNat)).toNat)))) = x2) → (WP mX4_nextMove 0 [vR 5 i, vR 2 j, vI x2, vU, vU] [] (up σ 34 i x2.toNat ((σ 34 i x2.toNat) + 1)) Q)) ∧ (((x2 + (((σ 59 j ((σ 34 i x2.toNat).toNat)) - (shr (σ 23 j (((x2 * 10) + (σ 58 j ((σ 34 i x2.toNat).toNat))).toNat)) 4)) * (σ 60 j ((σ 58 j ((σ 34 i x2.toNat).toNat)).toNat)))) ≠ x2) → ((0 ≤ x2 ∧ x2 < 1024 ∧ 0 ≤ (x2 + (((σ 59 j ((σ 34 i x2.toNat).toNat)) - (shr (σ 23 j (((x2 * 10) + (σ 58 j ((σ 34 i x2.toNat).toNat))).toNat)) 4)) * (σ 60 j ((σ 58 j ((σ 34 i x2.toNat).toNat)).toNat)))) ∧ (x2 + (((σ 59 j ((σ 34 i x2.toNat).toNat)) - (shr (σ 23 j (((x2 * 10) + (σ 58 j ((σ 34 i x2.toNat).toNat))).toNat)) 4)) * (σ 60 j ((σ 58 j ((σ 34 i x2.toNat).toNat)).toNat)))) < 1024 ∧ 0 ≤ (σ 58 j ((σ 34 i x2.toNat).toNat)) ∧ (σ 58 j ((σ 34 i x2.toNat).toNat)) < 10 ∧ 0 ≤ ownr (up σ 34 i x2.toNat ((σ 34 i x2.toNat) + 1)) j (x2 + (((σ 59 j ((σ 34 i x2.toNat).toNat)) - (shr (σ 23 j (((x2 * 10) + (σ 58 j ((σ 34 i x2.toNat).toNat))).toNat)) 4)) * (σ 60 j ((σ 58 j ((σ 34 i x2.toNat).toNat)).toNat)))) (σ 58 j ((σ 34 i x2.toNat).toNat)) ∧ ownr (up σ 34 i x2.toNat ((σ 34 i x2.toNat) + 1)) j (x2 + (((σ 59 j ((σ 34 i x2.toNat).toNat)) - (shr (σ 23 j (((x2 * 10) + (σ 58 j ((σ 34 i x2.toNat).toNat))).toNat)) 4)) * (σ 60 j ((σ 58 j ((σ 34 i x2.toNat).toNat)).toNat)))) (σ 58 j ((σ 34 i x2.toNat).toNat)) < 4) ∧ ((((prc (up σ 34 i x2.toNat ((σ 34 i x2.toNat) + 1)) j x2 (x2 + (((σ 59 j ((σ 34 i x2.toNat).toNat)) - (shr (σ 23 j (((x2 * 10) + (σ 58 j ((σ 34 i x2.toNat).toNat))).toNat)) 4)) * (σ 60 j ((σ 58 j ((σ 34 i x2.toNat).toNat)).toNat)))) (σ 58 j ((σ 34 i x2.toNat).toNat))) ≠ 0) → (WP mX4_nextMove 0 [vR 5 i, vR 2 j, vI x2, vU, vU] [] (up σ 34 i x2.toNat ((σ 34 i x2.toNat) + 1)) Q)) ∧ (((prc (up σ 34 i x2.toNat ((σ 34 i x2.toNat) + 1)) j x2 (x2 + (((σ 59 j ((σ 34 i x2.toNat).toNat)) - (shr (σ 23 j (((x2 * 10) + (σ 58 j ((σ 34 i x2.toNat).toNat))).toNat)) 4)) * (σ 60 j ((σ 58 j ((σ 34 i x2.toNat).toNat)).toNat)))) (σ 58 j ((σ 34 i x2.toNat).toNat))) = 0) → (Q (.inl (some (vI (x2 + (((σ 59 j ((σ 34 i x2.toNat).toNat)) - (shr (σ 23 j (((x2 * 10) + (σ 58 j ((σ 34 i x2.toNat).toNat))).toNat)) 4)) * (σ 60 j ((σ 58 j ((σ 34 i x2.toNat).toNat)).toNat))))))) (up σ 34 i x2.toNat ((σ 34 i x2.toNat) + 1)))))))))))))))))) : WP mX4_nextMove 0 [vR 5 i, vR 2 j, vI x2, vU, vU] [] σ Q := by
  refine wp_aload_n dX4_nextMove_0 rfl rfl ?_
  refine wp_getR dX4_nextMove_1 fl_CustomValley_Rests_33 rfl rfl ?_
  refine wp_iload_n dX4_nextMove_4 rfl rfl ?_
  have s9 := h.1
  replace h := h.2
  refine wp_iaload dX4_nextMove_5 rfl rfl s9.1 s9.2 ?_
  refine wp_aload_n dX4_nextMove_6 rfl rfl ?_
  refine wp_getR dX4_nextMove_7 fl_CustomValley_Rests_46 rfl rfl ?_
  refine wp_getI dX4_nextMove_10 fl_CustomValley_Rests_108 rfl rfl rfl ?_
  refine wp_icmp_ge (tgt := 75) dX4_nextMove_13 (by decide) (fun hc => ?_) (fun hc => ?_)
  · replace h := h.1 hc
    refine wp_iconst dX4_nextMove_75 rfl ?_
    exact wp_iret dX4_nextMove_76 rfl h
  · replace h := h.2 hc
    refine wp_aload_n dX4_nextMove_16 rfl rfl ?_
    refine wp_iload_n dX4_nextMove_17 rfl rfl ?_
    refine wp_aload_n dX4_nextMove_18 rfl rfl ?_
    refine wp_getR dX4_nextMove_19 fl_CustomValley_Rests_33 rfl rfl ?_
    refine wp_iload_n dX4_nextMove_22 rfl rfl ?_
    have s8 := h.1
    replace h := h.2
    refine wp_iaload dX4_nextMove_23 rfl rfl s8.1 s8.2 ?_
    have s7 := h.1
    replace h := h.2
    refine wp_invV (N := mX1_beside) [vI x2, vI (σ 34 i x2.toNat)] dX4_nextMove_24 ml_CustomValley_Rests_111 mvX1_beside rfl rfl rfl rfl rfl (Nat.le_of_ble_eq_true rfl) (Nat.le_of_ble_eq_true rfl) (by decide) (by decide) (by decide) ?_
    refine pb_X1_beside s7 ?_
    show WP mX4_nextMove 27 [vR 5 i, vR 2 j, vI x2, vU, vU] [vI (x2 + (((σ 59 j ((σ 34 i x2.toNat).toNat)) - (shr (σ 23 j (((x2 * 10) + (σ 58 j ((σ 34 i x2.toNat).toNat))).toNat)) 4)) * (σ 60 j ((σ 58 j ((σ 34 i x2.toNat).toNat)).toNat))))] σ Q
    refine wp_istore_n dX4_nextMove_27 rfl (by decide) rfl rfl ?_
    refine wp_aload_n dX4_nextMove_28 rfl rfl ?_
    refine wp_getR dX4_nextMove_29 fl_CustomValley_Rests_46 rfl rfl ?_
    refine wp_getR dX4_nextMove_32 fl_CustomValley_Rests_114 rfl rfl ?_
    refine wp_aload_n dX4_nextMove_35 rfl rfl ?_
    refine wp_getR dX4_nextMove_36 fl_CustomValley_Rests_33 rfl rfl ?_
    refine wp_iload_n dX4_nextMove_39 rfl rfl ?_
    have s6 := h.1
    replace h := h.2
    refine wp_iaload dX4_nextMove_40 rfl rfl s6.1 s6.2 ?_
    have s5 := h.1
    replace h := h.2
    refine wp_iaload dX4_nextMove_41 rfl rfl s5.1 s5.2 ?_
    refine wp_istore dX4_nextMove_42 (by decide) rfl rfl ?_
    refine wp_aload_n dX4_nextMove_44 rfl rfl ?_
    refine wp_getR dX4_nextMove_45 fl_CustomValley_Rests_33 rfl rfl ?_
    refine wp_iload_n dX4_nextMove_48 rfl rfl ?_
    refine wp_dup2 dX4_nextMove_49 ?_
    have s4 := h.1
    replace h := h.2
    refine wp_iaload dX4_nextMove_50 rfl rfl s4.1 s4.2 ?_
    refine wp_iconst dX4_nextMove_51 rfl ?_
    have s3 := h.1
    replace h := h.2
    refine wp_iadd dX4_nextMove_52 ?_ (h1 := s3.1) (h2 := s3.2)
    have s2 := h.1
    replace h := h.2
    refine wp_iastore dX4_nextMove_53 rfl rfl s2.1 s2.2 ?_
    refine wp_iload_n dX4_nextMove_54 rfl rfl ?_
    refine wp_iload_n dX4_nextMove_55 rfl rfl ?_
    refine wp_icmp_eq (tgt := 72) dX4_nextMove_56 (by decide) (fun hc => ?_) (fun hc => ?_)
    · replace h := h.1 hc
      refine wp_goto (tgt := 0) dX4_nextMove_72 (by decide) ?_
      exact wp_drop (als' := [vR 5 i, vR 2 j, vI x2, vU, vU]) (lle_c (Or.inl rfl) (lle_c (Or.inl rfl) (lle_c (Or.inl rfl) (lle_c (Or.inr rfl) (lle_c (Or.inr rfl) lle_n))))) h
    · replace h := h.2 hc
      refine wp_aload_n dX4_nextMove_59 rfl rfl ?_
      refine wp_iload_n dX4_nextMove_60 rfl rfl ?_
      refine wp_iload_n dX4_nextMove_61 rfl rfl ?_
      refine wp_iload dX4_nextMove_62 rfl ?_
      have s1 := h.1
      replace h := h.2
      refine wp_invV (N := mX1_price) [vI x2, vI (x2 + (((σ 59 j ((σ 34 i x2.toNat).toNat)) - (shr (σ 23 j (((x2 * 10) + (σ 58 j ((σ 34 i x2.toNat).toNat))).toNat)) 4)) * (σ 60 j ((σ 58 j ((σ 34 i x2.toNat).toNat)).toNat)))), vI (σ 58 j ((σ 34 i x2.toNat).toNat))] dX4_nextMove_64 ml_CustomValley_Rests_117 mvX1_price rfl rfl rfl rfl rfl (Nat.le_of_ble_eq_true rfl) (Nat.le_of_ble_eq_true rfl) (by decide) (by decide) (by decide) ?_
      refine pb_X1_price s1 ?_
      show WP mX4_nextMove 67 [vR 5 i, vR 2 j, vI x2, vI (x2 + (((σ 59 j ((σ 34 i x2.toNat).toNat)) - (shr (σ 23 j (((x2 * 10) + (σ 58 j ((σ 34 i x2.toNat).toNat))).toNat)) 4)) * (σ 60 j ((σ 58 j ((σ 34 i x2.toNat).toNat)).toNat)))), vI (σ 58 j ((σ 34 i x2.toNat).toNat))] [vI (prc (up σ 34 i x2.toNat ((σ 34 i x2.toNat) + 1)) j x2 (x2 + (((σ 59 j ((σ 34 i x2.toNat).toNat)) - (shr (σ 23 j (((x2 * 10) + (σ 58 j ((σ 34 i x2.toNat).toNat))).toNat)) 4)) * (σ 60 j ((σ 58 j ((σ 34 i x2.toNat).toNat)).toNat)))) (σ 58 j ((σ 34 i x2.toNat).toNat)))] (up σ 34 i x2.toNat ((σ 34 i x2.toNat) + 1)) Q
      refine wp_if_ne (tgt := 72) dX4_nextMove_67 (by decide) (fun hc => ?_) (fun hc => ?_)
      · replace h := h.1 hc
        refine wp_goto (tgt := 0) dX4_nextMove_72 (by decide) ?_
        exact wp_drop (als' := [vR 5 i, vR 2 j, vI x2, vU, vU]) (lle_c (Or.inl rfl) (lle_c (Or.inl rfl) (lle_c (Or.inl rfl) (lle_c (Or.inr rfl) (lle_c (Or.inr rfl) lle_n))))) h
      · replace h := h.2 hc
        refine wp_iload_n dX4_nextMove_70 rfl rfl ?_
        exact wp_iret dX4_nextMove_71 rfl h
theorem dX4_numberByLeast_0 : decode cX4_numberByLeast 0 = .ok (.aload_n 0, 1) := by decide +kernel
theorem dX4_numberByLeast_1 : decode cX4_numberByLeast 1 = .ok (.getfield 30, 3) := by decide +kernel
theorem dX4_numberByLeast_4 : decode cX4_numberByLeast 4 = .ok (.aload_n 1, 1) := by decide +kernel
theorem dX4_numberByLeast_5 : decode cX4_numberByLeast 5 = .ok (.getfield 61, 3) := by decide +kernel
theorem dX4_numberByLeast_8 : decode cX4_numberByLeast 8 = .ok (.iconst (-1), 1) := by decide +kernel
theorem dX4_numberByLeast_9 : decode cX4_numberByLeast 9 = .ok (.invokestatic 66, 3) := by decide +kernel
theorem dX4_numberByLeast_12 : decode cX4_numberByLeast 12 = .ok (.iconst 0, 1) := by decide +kernel
theorem dX4_numberByLeast_13 : decode cX4_numberByLeast 13 = .ok (.istore_n 2, 1) := by decide +kernel
theorem dX4_numberByLeast_14 : decode cX4_numberByLeast 14 = .ok (.iconst 0, 1) := by decide +kernel
theorem dX4_numberByLeast_15 : decode cX4_numberByLeast 15 = .ok (.istore_n 3, 1) := by decide +kernel
theorem dX4_numberByLeast_16 : decode cX4_numberByLeast 16 = .ok (.iload_n 3, 1) := by decide +kernel
theorem dX4_numberByLeast_17 : decode cX4_numberByLeast 17 = .ok (.aload_n 1, 1) := by decide +kernel
theorem dX4_numberByLeast_18 : decode cX4_numberByLeast 18 = .ok (.getfield 70, 3) := by decide +kernel
theorem dX4_numberByLeast_21 : decode cX4_numberByLeast 21 = .ok (.if_icmp .ge 49, 3) := by decide +kernel
theorem dX4_numberByLeast_24 : decode cX4_numberByLeast 24 = .ok (.aload_n 0, 1) := by decide +kernel
theorem dX4_numberByLeast_25 : decode cX4_numberByLeast 25 = .ok (.getfield 9, 3) := by decide +kernel
theorem dX4_numberByLeast_28 : decode cX4_numberByLeast 28 = .ok (.aload_n 1, 1) := by decide +kernel
theorem dX4_numberByLeast_29 : decode cX4_numberByLeast 29 = .ok (.getfield 73, 3) := by decide +kernel
theorem dX4_numberByLeast_32 : decode cX4_numberByLeast 32 = .ok (.iload_n 3, 1) := by decide +kernel
theorem dX4_numberByLeast_33 : decode cX4_numberByLeast 33 = .ok (.iaload, 1) := by decide +kernel
theorem dX4_numberByLeast_34 : decode cX4_numberByLeast 34 = .ok (.iaload, 1) := by decide +kernel
theorem dX4_numberByLeast_35 : decode cX4_numberByLeast 35 = .ok (.istore 4, 2) := by decide +kernel
theorem dX4_numberByLeast_37 : decode cX4_numberByLeast 37 = .ok (.iload 4, 2) := by decide +kernel
theorem dX4_numberByLeast_39 : decode cX4_numberByLeast 39 = .ok (.ifCond .lt 25, 3) := by decide +kernel
theorem dX4_numberByLeast_42 : decode cX4_numberByLeast 42 = .ok (.aload_n 0, 1) := by decide +kernel
theorem dX4_numberByLeast_43 : decode cX4_numberByLeast 43 = .ok (.getfield 30, 3) := by decide +kernel
theorem dX4_numberByLeast_46 : decode cX4_numberByLeast 46 = .ok (.iload 4, 2) := by decide +kernel
theorem dX4_numberByLeast_48 : decode cX4_numberByLeast 48 = .ok (.iaload, 1) := by decide +kernel
theorem dX4_numberByLeast_49 : decode cX4_numberByLeast 49 = .ok (.iconst (-1), 1) := by decide +kernel
theorem dX4_numberByLeast_50 : decode cX4_numberByLeast 50 = .ok (.if_icmp .ne 14, 3) := by decide +kernel
theorem dX4_numberByLeast_53 : decode cX4_numberByLeast 53 = .ok (.aload_n 0, 1) := by decide +kernel
theorem dX4_numberByLeast_54 : decode cX4_numberByLeast 54 = .ok (.getfield 30, 3) := by decide +kernel
theorem dX4_numberByLeast_57 : decode cX4_numberByLeast 57 = .ok (.iload 4, 2) := by decide +kernel
theorem dX4_numberByLeast_59 : decode cX4_numberByLeast 59 = .ok (.iload_n 2, 1) := by decide +kernel
theorem dX4_numberByLeast_60 : decode cX4_numberByLeast 60 = .ok (.iastore, 1) := by decide +kernel
theorem dX4_numberByLeast_61 : decode cX4_numberByLeast 61 = .ok (.iinc 2 1, 3) := by decide +kernel
theorem dX4_numberByLeast_64 : decode cX4_numberByLeast 64 = .ok (.iinc 3 1, 3) := by decide +kernel
theorem dX4_numberByLeast_67 : decode cX4_numberByLeast 67 = .ok (.goto (-51), 3) := by decide +kernel
theorem dX4_numberByLeast_70 : decode cX4_numberByLeast 70 = .ok (.iconst 0, 1) := by decide +kernel
theorem dX4_numberByLeast_71 : decode cX4_numberByLeast 71 = .ok (.istore_n 3, 1) := by decide +kernel
theorem dX4_numberByLeast_72 : decode cX4_numberByLeast 72 = .ok (.iload_n 3, 1) := by decide +kernel
theorem dX4_numberByLeast_73 : decode cX4_numberByLeast 73 = .ok (.aload_n 1, 1) := by decide +kernel
theorem dX4_numberByLeast_74 : decode cX4_numberByLeast 74 = .ok (.getfield 70, 3) := by decide +kernel
theorem dX4_numberByLeast_77 : decode cX4_numberByLeast 77 = .ok (.if_icmp .ge 84, 3) := by decide +kernel
theorem dX4_numberByLeast_80 : decode cX4_numberByLeast 80 = .ok (.aload_n 1, 1) := by decide +kernel
theorem dX4_numberByLeast_81 : decode cX4_numberByLeast 81 = .ok (.getfield 73, 3) := by decide +kernel
theorem dX4_numberByLeast_84 : decode cX4_numberByLeast 84 = .ok (.iload_n 3, 1) := by decide +kernel
theorem dX4_numberByLeast_85 : decode cX4_numberByLeast 85 = .ok (.iaload, 1) := by decide +kernel
theorem dX4_numberByLeast_86 : decode cX4_numberByLeast 86 = .ok (.istore 4, 2) := by decide +kernel
theorem dX4_numberByLeast_88 : decode cX4_numberByLeast 88 = .ok (.aload_n 0, 1) := by decide +kernel
theorem dX4_numberByLeast_89 : decode cX4_numberByLeast 89 = .ok (.getfield 9, 3) := by decide +kernel
theorem dX4_numberByLeast_92 : decode cX4_numberByLeast 92 = .ok (.iload 4, 2) := by decide +kernel
theorem dX4_numberByLeast_94 : decode cX4_numberByLeast 94 = .ok (.aload_n 0, 1) := by decide +kernel
theorem dX4_numberByLeast_95 : decode cX4_numberByLeast 95 = .ok (.getfield 9, 3) := by decide +kernel
theorem dX4_numberByLeast_98 : decode cX4_numberByLeast 98 = .ok (.iload 4, 2) := by decide +kernel
theorem dX4_numberByLeast_100 : decode cX4_numberByLeast 100 = .ok (.iaload, 1) := by decide +kernel
theorem dX4_numberByLeast_101 : decode cX4_numberByLeast 101 = .ok (.ifCond .ge 7, 3) := by decide +kernel
theorem dX4_numberByLeast_104 : decode cX4_numberByLeast 104 = .ok (.iconst (-1), 1) := by decide +kernel
theorem dX4_numberByLeast_105 : decode cX4_numberByLeast 105 = .ok (.goto 15, 3) := by decide +kernel
theorem dX4_numberByLeast_108 : decode cX4_numberByLeast 108 = .ok (.aload_n 0, 1) := by decide +kernel
theorem dX4_numberByLeast_109 : decode cX4_numberByLeast 109 = .ok (.getfield 30, 3) := by decide +kernel
theorem dX4_numberByLeast_112 : decode cX4_numberByLeast 112 = .ok (.aload_n 0, 1) := by decide +kernel
theorem dX4_numberByLeast_113 : decode cX4_numberByLeast 113 = .ok (.getfield 9, 3) := by decide +kernel
theorem dX4_numberByLeast_116 : decode cX4_numberByLeast 116 = .ok (.iload 4, 2) := by decide +kernel
theorem dX4_numberByLeast_118 : decode cX4_numberByLeast 118 = .ok (.iaload, 1) := by decide +kernel
theorem dX4_numberByLeast_119 : decode cX4_numberByLeast 119 = .ok (.iaload, 1) := by decide +kernel
theorem dX4_numberByLeast_120 : decode cX4_numberByLeast 120 = .ok (.iastore, 1) := by decide +kernel
theorem dX4_numberByLeast_121 : decode cX4_numberByLeast 121 = .ok (.aload_n 0, 1) := by decide +kernel
theorem dX4_numberByLeast_122 : decode cX4_numberByLeast 122 = .ok (.getfield 15, 3) := by decide +kernel
theorem dX4_numberByLeast_125 : decode cX4_numberByLeast 125 = .ok (.iload 4, 2) := by decide +kernel
theorem dX4_numberByLeast_127 : decode cX4_numberByLeast 127 = .ok (.aload_n 0, 1) := by decide +kernel
theorem dX4_numberByLeast_128 : decode cX4_numberByLeast 128 = .ok (.getfield 15, 3) := by decide +kernel
theorem dX4_numberByLeast_131 : decode cX4_numberByLeast 131 = .ok (.iload 4, 2) := by decide +kernel
theorem dX4_numberByLeast_133 : decode cX4_numberByLeast 133 = .ok (.iaload, 1) := by decide +kernel
theorem dX4_numberByLeast_134 : decode cX4_numberByLeast 134 = .ok (.ifCond .ge 8, 3) := by decide +kernel
theorem dX4_numberByLeast_137 : decode cX4_numberByLeast 137 = .ok (.bipush (-6), 2) := by decide +kernel
theorem dX4_numberByLeast_139 : decode cX4_numberByLeast 139 = .ok (.goto 15, 3) := by decide +kernel
theorem dX4_numberByLeast_142 : decode cX4_numberByLeast 142 = .ok (.aload_n 0, 1) := by decide +kernel
theorem dX4_numberByLeast_143 : decode cX4_numberByLeast 143 = .ok (.getfield 30, 3) := by decide +kernel
theorem dX4_numberByLeast_146 : decode cX4_numberByLeast 146 = .ok (.aload_n 0, 1) := by decide +kernel
theorem dX4_numberByLeast_147 : decode cX4_numberByLeast 147 = .ok (.getfield 15, 3) := by decide +kernel
theorem dX4_numberByLeast_150 : decode cX4_numberByLeast 150 = .ok (.iload 4, 2) := by decide +kernel
theorem dX4_numberByLeast_152 : decode cX4_numberByLeast 152 = .ok (.iaload, 1) := by decide +kernel
theorem dX4_numberByLeast_153 : decode cX4_numberByLeast 153 = .ok (.iaload, 1) := by decide +kernel
theorem dX4_numberByLeast_154 : decode cX4_numberByLeast 154 = .ok (.iastore, 1) := by decide +kernel
theorem dX4_numberByLeast_155 : decode cX4_numberByLeast 155 = .ok (.iinc 3 1, 3) := by decide +kernel
theorem dX4_numberByLeast_158 : decode cX4_numberByLeast 158 = .ok (.goto (-86), 3) := by decide +kernel
theorem dX4_numberByLeast_161 : decode cX4_numberByLeast 161 = .ok (.return_, 1) := by decide +kernel
theorem b_X4_numberByLeast_0 {i : Nat} {j : Nat} {σ : St} {Q : Res → St → Prop} (h : WP mX11_fillTo 0 [vR 33 i, vI (σ 10 j 11), vI (-1), vU] [] σ (CT mX4_numberByLeast 12 [vR 5 i, vR 10 j, vU, vU, vU] [] Q)) : WP mX4_numberByLeast 0 [vR 5 i, vR 10 j, vU, vU, vU] [] σ Q := by
  refine wp_aload_n dX4_numberByLeast_0 rfl rfl ?_
  refine wp_getR dX4_numberByLeast_1 fl_CustomValley_Rests_30 rfl rfl ?_
  refine wp_aload_n dX4_numberByLeast_4 rfl rfl ?_
  refine wp_getI dX4_numberByLeast_5 fl_CustomValley_Rests_61 rfl rfl rfl ?_
  refine wp_iconst dX4_numberByLeast_8 rfl ?_
  refine wp_invN (N := mX11_fillTo) [vR 33 i, vI (σ 10 j 11), vI (-1)] dX4_numberByLeast_9 mn_CustomValley_Rests_66 mvX11_fillTo rfl rfl rfl (Nat.le_of_ble_eq_true rfl) (Nat.le_of_ble_eq_true rfl) (by decide) (by decide) ?_
  exact h
theorem b_X4_numberByLeast_12 {i : Nat} {j : Nat} {σ : St} {Q : Res → St → Prop} (h : WP mX4_numberByLeast 16 [vR 5 i, vR 10 j, vI 0, vI 0, vU] [] σ Q) : WP mX4_numberByLeast 12 [vR 5 i, vR 10 j, vU, vU, vU] [] σ Q := by
  refine wp_iconst dX4_numberByLeast_12 rfl ?_
  refine wp_istore_n dX4_numberByLeast_13 rfl (by decide) rfl rfl ?_
  refine wp_iconst dX4_numberByLeast_14 rfl ?_
  refine wp_istore_n dX4_numberByLeast_15 rfl (by decide) rfl rfl ?_
  exact h
theorem b_X4_numberByLeast_16 {i : Nat} {j : Nat} {x2 : Int} {x3 : Int} {σ : St} {Q : Res → St → Prop} (h : (((σ 10 j 12) ≤ x3) → (WP mX4_numberByLeast 72 [vR 5 i, vR 10 j, vU, vI 0, vU] [] σ Q)) ∧ ((x3 < (σ 10 j 12)) → ((0 ≤ x3 ∧ x3 < 1024) ∧ ((0 ≤ σ 61 j x3.toNat ∧ (σ 61 j x3.toNat) < 1024) ∧ ((((σ 27 i ((σ 61 j x3.toNat).toNat)) < 0) → ((in32 (x3 + 1)) ∧ (WP mX4_numberByLeast 16 [vR 5 i, vR 10 j, vI x2, vI (x3 + 1), vU] [] σ Q))) ∧ ((0 ≤ (σ 27 i ((σ 61 j x3.toNat).toNat))) → ((0 ≤ σ 27 i ((σ 61 j x3.toNat).toNat) ∧ (σ 27 i ((σ 61 j x3.toNat).toNat)) < 1024) ∧ ((((σ 33 i ((σ 27 i ((σ 61 j x3.toNat).toNat)).toNat)) ≠ (-1)) → ((in32 (x3 + 1)) ∧ (WP mX4_numberByLeast 16 [vR 5 i, vR 10 j, vI x2, vI (x3 + 1), vU] [] σ Q))) ∧ (((σ 33 i ((σ 27 i ((σ 61 j x3.toNat).toNat)).toNat)) = (-1)) → ((0 ≤ σ 27 i ((σ 61 j x3.toNat).toNat) ∧ (σ 27 i ((σ 61 j x3.toNat).toNat)) < 1024) ∧ ((in32 (x2 + 1)) ∧ ((in32 (x3 + 1)) ∧ (WP mX4_numberByLeast 16 [vR 5 i, vR 10 j, vI (x2 + 1), vI (x3 + 1), vU] [] (up σ 33 i ((σ 27 i ((σ 61 j x3.toNat).toNat)).toNat) x2) Q))))))))))))) : WP mX4_numberByLeast 16 [vR 5 i, vR 10 j, vI x2, vI x3, vU] [] σ Q := by
  refine wp_iload_n dX4_numberByLeast_16 rfl rfl ?_
  refine wp_aload_n dX4_numberByLeast_17 rfl rfl ?_
  refine wp_getI dX4_numberByLeast_18 fl_CustomValley_Rests_70 rfl rfl rfl ?_
  refine wp_icmp_ge (tgt := 70) dX4_numberByLeast_21 (by decide) (fun hc => ?_) (fun hc => ?_)
  · replace h := h.1 hc
    refine wp_iconst dX4_numberByLeast_70 rfl ?_
    refine wp_istore_n dX4_numberByLeast_71 rfl (by decide) rfl rfl ?_
    exact wp_drop (als' := [vR 5 i, vR 10 j, vU, vI 0, vU]) (lle_c (Or.inl rfl) (lle_c (Or.inl rfl) (lle_c (Or.inr rfl) (lle_c (Or.inl rfl) (lle_c (Or.inl rfl) lle_n))))) h
  · replace h := h.2 hc
    refine wp_aload_n dX4_numberByLeast_24 rfl rfl ?_
    refine wp_getR dX4_numberByLeast_25 fl_CustomValley_Rests_9 rfl rfl ?_
    refine wp_aload_n dX4_numberByLeast_28 rfl rfl ?_
    refine wp_getR dX4_numberByLeast_29 fl_CustomValley_Rests_73 rfl rfl ?_
    refine wp_iload_n dX4_numberByLeast_32 rfl rfl ?_
    have s8 := h.1
    replace h := h.2
    refine wp_iaload dX4_numberByLeast_33 rfl rfl s8.1 s8.2 ?_
    have s7 := h.1
    replace h := h.2
    refine wp_iaload dX4_numberByLeast_34 rfl rfl s7.1 s7.2 ?_
    refine wp_istore dX4_numberByLeast_35 (by decide) rfl rfl ?_
    refine wp_iload dX4_numberByLeast_37 rfl ?_
    refine wp_if_lt (tgt := 64) dX4_numberByLeast_39 (by decide) (fun hc => ?_) (fun hc => ?_)
    · replace h := h.1 hc
      have s1 := h.1
      replace h := h.2
      refine wp_iinc dX4_numberByLeast_64 rfl (by decide) rfl rfl ?_ (h1 := s1.1) (h2 := s1.2)
      refine wp_goto (tgt := 16) dX4_numberByLeast_67 (by decide) ?_
      exact wp_drop (als' := [vR 5 i, vR 10 j, vI x2, vI (x3 + 1), vU]) (lle_c (Or.inl rfl) (lle_c (Or.inl rfl) (lle_c (Or.inl rfl) (lle_c (Or.inl rfl) (lle_c (Or.inr rfl) lle_n))))) h
    · replace h := h.2 hc
      refine wp_aload_n dX4_numberByLeast_42 rfl rfl ?_
      refine wp_getR dX4_numberByLeast_43 fl_CustomValley_Rests_30 rfl rfl ?_
      refine wp_iload dX4_numberByLeast_46 rfl ?_
      have s6 := h.1
      replace h := h.2
      refine wp_iaload dX4_numberByLeast_48 rfl rfl s6.1 s6.2 ?_
      refine wp_iconst dX4_numberByLeast_49 rfl ?_
      refine wp_icmp_ne (tgt := 64) dX4_numberByLeast_50 (by decide) (fun hc => ?_) (fun hc => ?_)
      · replace h := h.1 hc
        have s2 := h.1
        replace h := h.2
        refine wp_iinc dX4_numberByLeast_64 rfl (by decide) rfl rfl ?_ (h1 := s2.1) (h2 := s2.2)
        refine wp_goto (tgt := 16) dX4_numberByLeast_67 (by decide) ?_
        exact wp_drop (als' := [vR 5 i, vR 10 j, vI x2, vI (x3 + 1), vU]) (lle_c (Or.inl rfl) (lle_c (Or.inl rfl) (lle_c (Or.inl rfl) (lle_c (Or.inl rfl) (lle_c (Or.inr rfl) lle_n))))) h
      · replace h := h.2 hc
        refine wp_aload_n dX4_numberByLeast_53 rfl rfl ?_
        refine wp_getR dX4_numberByLeast_54 fl_CustomValley_Rests_30 rfl rfl ?_
        refine wp_iload dX4_numberByLeast_57 rfl ?_
        refine wp_iload_n dX4_numberByLeast_59 rfl rfl ?_
        have s5 := h.1
        replace h := h.2
        refine wp_iastore dX4_numberByLeast_60 rfl rfl s5.1 s5.2 ?_
        have s4 := h.1
        replace h := h.2
        refine wp_iinc dX4_numberByLeast_61 rfl (by decide) rfl rfl ?_ (h1 := s4.1) (h2 := s4.2)
        have s3 := h.1
        replace h := h.2
        refine wp_iinc dX4_numberByLeast_64 rfl (by decide) rfl rfl ?_ (h1 := s3.1) (h2 := s3.2)
        refine wp_goto (tgt := 16) dX4_numberByLeast_67 (by decide) ?_
        exact wp_drop (als' := [vR 5 i, vR 10 j, vI (x2 + 1), vI (x3 + 1), vU]) (lle_c (Or.inl rfl) (lle_c (Or.inl rfl) (lle_c (Or.inl rfl) (lle_c (Or.inl rfl) (lle_c (Or.inr rfl) lle_n))))) h
theorem b_X4_numberByLeast_72 {i : Nat} {j : Nat} {x3 : Int} {σ : St} {Q : Res → St → Prop} (h : (((σ 10 j 12) ≤ x3) → (Q (.inl none) σ)) ∧ ((x3 < (σ 10 j 12)) → ((0 ≤ x3 ∧ x3 < 1024) ∧ ((0 ≤ σ 61 j x3.toNat ∧ (σ 61 j x3.toNat) < 1024) ∧ (((0 ≤ (σ 27 i ((σ 61 j x3.toNat).toNat))) → ((0 ≤ σ 61 j x3.toNat ∧ (σ 61 j x3.toNat) < 1024) ∧ ((0 ≤ σ 27 i ((σ 61 j x3.toNat).toNat) ∧ (σ 27 i ((σ 61 j x3.toNat).toNat)) < 1024) ∧ (WP mX4_numberByLeast 120 [vR 5 i, vR 10 j, vU, vI x3, vI (σ 61 j x3.toNat)] [vI (σ 33 i ((σ 27 i ((σ 61 j x3.toNat).toNat)).toNat)), vI (σ 61 j x3.toNat), vR 27 i] σ Q)))) ∧ (((σ 27 i ((σ 61 j x3.toNat).toNat)) < 0) → (WP mX4_numberByLeast 120 [vR 5 i, vR 10 j, vU, vI x3, vI (σ 61 j x3.toNat)] [vI (-1), vI (σ 61 j x3.toNat), vR 27 i] σ Q))))))) : WP mX4_numberByLeast 72 [vR 5 i, vR 10 j, vU, vI x3, vU] [] σ Q := by
  refine wp_iload_n dX4_numberByLeast_72 rfl rfl ?_
  refine wp_aload_n dX4_numberByLeast_73 rfl rfl ?_
  refine wp_getI dX4_numberByLeast_74 fl_CustomValley_Rests_70 rfl rfl rfl ?_
  refine wp_icmp_ge (tgt := 161) dX4_numberByLeast_77 (by decide) (fun hc => ?_) (fun hc => ?_)
  · replace h := h.1 hc
    exact wp_ret dX4_numberByLeast_161 rfl h
  · replace h := h.2 hc
    refine wp_aload_n dX4_numberByLeast_80 rfl rfl ?_
    refine wp_getR dX4_numberByLeast_81 fl_CustomValley_Rests_73 rfl rfl ?_
    refine wp_iload_n dX4_numberByLeast_84 rfl rfl ?_
    have s4 := h.1
    replace h := h.2
    refine wp_iaload dX4_numberByLeast_85 rfl rfl s4.1 s4.2 ?_
    refine wp_istore dX4_numberByLeast_86 (by decide) rfl rfl ?_
    refine wp_aload_n dX4_numberByLeast_88 rfl rfl ?_
    refine wp_getR dX4_numberByLeast_89 fl_CustomValley_Rests_9 rfl rfl ?_
    refine wp_iload dX4_numberByLeast_92 rfl ?_
    refine wp_aload_n dX4_numberByLeast_94 rfl rfl ?_
    refine wp_getR dX4_numberByLeast_95 fl_CustomValley_Rests_9 rfl rfl ?_
    refine wp_iload dX4_numberByLeast_98 rfl ?_
    have s3 := h.1
    replace h := h.2
    refine wp_iaload dX4_numberByLeast_100 rfl rfl s3.1 s3.2 ?_
    refine wp_if_ge (tgt := 108) dX4_numberByLeast_101 (by decide) (fun hc => ?_) (fun hc => ?_)
    · replace h := h.1 hc
      refine wp_aload_n dX4_numberByLeast_108 rfl rfl ?_
      refine wp_getR dX4_numberByLeast_109 fl_CustomValley_Rests_30 rfl rfl ?_
      refine wp_aload_n dX4_numberByLeast_112 rfl rfl ?_
      refine wp_getR dX4_numberByLeast_113 fl_CustomValley_Rests_9 rfl rfl ?_
      refine wp_iload dX4_numberByLeast_116 rfl ?_
      have s2 := h.1
      replace h := h.2
      refine wp_iaload dX4_numberByLeast_118 rfl rfl s2.1 s2.2 ?_
      have s1 := h.1
      replace h := h.2
      refine wp_iaload dX4_numberByLeast_119 rfl rfl s1.1 s1.2 ?_
      exact h
    · replace h := h.2 hc
      refine wp_iconst dX4_numberByLeast_104 rfl ?_
      refine wp_goto (tgt := 120) dX4_numberByLeast_105 (by decide) ?_
      exact h
theorem b_X4_numberByLeast_120 {i : Nat} {j : Nat} {x3 : Int} {x4 : Int} {t0 : Int} {t1 : Int} {σ : St} {Q : Res → St → Prop} (h : (0 ≤ t1 ∧ t1 < 1024) ∧ ((0 ≤ x4 ∧ x4 < 1024) ∧ (((0 ≤ (σ 28 i x4.toNat)) → ((0 ≤ x4 ∧ x4 < 1024) ∧ ((0 ≤ σ 28 i x4.toNat ∧ (σ 28 i x4.toNat) < 1024) ∧ ((0 ≤ x4 ∧ x4 < 1024) ∧ ((in32 (x3 + 1)) ∧ (WP mX4_numberByLeast 72 [vR 5 i, vR 10 j, vU, vI (x3 + 1), vU] [] (up (up σ 27 i t1.toNat t0) 28 i x4.toNat (σ 33 i ((σ 28 i x4.toNat).toNat))) Q)))))) ∧ (((σ 28 i x4.toNat) < 0) → ((0 ≤ x4 ∧ x4 < 1024) ∧ ((in32 (x3 + 1)) ∧ (WP mX4_numberByLeast 72 [vR 5 i, vR 10 j, vU, vI (x3 + 1), vU] [] (up (up σ 27 i t1.toNat t0) 28 i x4.toNat (-6)) Q))))))) : WP mX4_numberByLeast 120 [vR 5 i, vR 10 j, vU, vI x3, vI x4] [vI t0, vI t1, vR 27 i] σ Q := by
  have s8 := h.1
  replace h := h.2
  refine wp_iastore dX4_numberByLeast_120 rfl rfl s8.1 s8.2 ?_
  refine wp_aload_n dX4_numberByLeast_121 rfl rfl ?_
  refine wp_getR dX4_numberByLeast_122 fl_CustomValley_Rests_15 rfl rfl ?_
  refine wp_iload dX4_numberByLeast_125 rfl ?_
  refine wp_aload_n dX4_numberByLeast_127 rfl rfl ?_
  refine wp_getR dX4_numberByLeast_128 fl_CustomValley_Rests_15 rfl rfl ?_
  refine wp_iload dX4_numberByLeast_131 rfl ?_
  have s7 := h.1
  replace h := h.2
  refine wp_iaload dX4_numberByLeast_133 rfl rfl s7.1 s7.2 ?_
  rw [show (up σ 27 i t1.toNat t0) 28 i x4.toNat = σ 28 i x4.toNat from by simp [up]]
  refine wp_if_ge (tgt := 142) dX4_numberByLeast_134 (by decide) (fun hc => ?_) (fun hc => ?_)
  · replace h := h.1 hc
    refine wp_aload_n dX4_numberByLeast_142 rfl rfl ?_
    refine wp_getR dX4_numberByLeast_143 fl_CustomValley_Rests_30 rfl rfl ?_
    refine wp_aload_n dX4_numberByLeast_146 rfl rfl ?_
    refine wp_getR dX4_numberByLeast_147 fl_CustomValley_Rests_15 rfl rfl ?_
    refine wp_iload dX4_numberByLeast_150 rfl ?_
    have s4 := h.1
    replace h := h.2
    refine wp_iaload dX4_numberByLeast_152 rfl rfl s4.1 s4.2 ?_
    rw [show (up σ 27 i t1.toNat t0) 28 i x4.toNat = σ 28 i x4.toNat from by simp [up]]
    have s3 := h.1
    replace h := h.2
    refine wp_iaload dX4_numberByLeast_153 rfl rfl s3.1 s3.2 ?_
    rw [show (up σ 27 i t1.toNat t0) 33 i ((σ 28 i x4.toNat).toNat) = σ 33 i ((σ 28 i x4.toNat).toNat) from by simp [up]]
    have s2 := h.1
    replace h := h.2
    refine wp_iastore dX4_numberByLeast_154 rfl rfl s2.1 s2.2 ?_
    have s1 := h.1
    replace h := h.2
    refine wp_iinc dX4_numberByLeast_155 rfl (by decide) rfl rfl ?_ (h1 := s1.1) (h2 := s1.2)
    refine wp_goto (tgt := 72) dX4_numberByLeast_158 (by decide) ?_
    exact wp_drop (als' := [vR 5 i, vR 10 j, vU, vI (x3 + 1), vU]) (lle_c (Or.inl rfl) (lle_c (Or.inl rfl) (lle_c (Or.inl rfl) (lle_c (Or.inl rfl) (lle_c (Or.inr rfl) lle_n))))) h
  · replace h := h.2 hc
    refine wp_bipush dX4_numberByLeast_137 rfl ?_
    refine wp_goto (tgt := 154) dX4_numberByLeast_139 (by decide) ?_
    have s6 := h.1
    replace h := h.2
    refine wp_iastore dX4_numberByLeast_154 rfl rfl s6.1 s6.2 ?_
    have s5 := h.1
    replace h := h.2
    refine wp_iinc dX4_numberByLeast_155 rfl (by decide) rfl rfl ?_ (h1 := s5.1) (h2 := s5.2)
    refine wp_goto (tgt := 72) dX4_numberByLeast_158 (by decide) ?_
    exact wp_drop (als' := [vR 5 i, vR 10 j, vU, vI (x3 + 1), vU]) (lle_c (Or.inl rfl) (lle_c (Or.inl rfl) (lle_c (Or.inl rfl) (lle_c (Or.inl rfl) (lle_c (Or.inr rfl) lle_n))))) h
theorem dX4_retreat_0 : decode cX4_retreat 0 = .ok (.aload_n 0, 1) := by decide +kernel
theorem dX4_retreat_1 : decode cX4_retreat 1 = .ok (.dup, 1) := by decide +kernel
theorem dX4_retreat_2 : decode cX4_retreat 2 = .ok (.getfield 52, 3) := by decide +kernel
theorem dX4_retreat_5 : decode cX4_retreat 5 = .ok (.iconst 1, 1) := by decide +kernel
theorem dX4_retreat_6 : decode cX4_retreat 6 = .ok (.isub, 1) := by decide +kernel
theorem dX4_retreat_7 : decode cX4_retreat 7 = .ok (.putfield 52, 3) := by decide +kernel
theorem dX4_retreat_10 : decode cX4_retreat 10 = .ok (.aload_n 0, 1) := by decide +kernel
theorem dX4_retreat_11 : decode cX4_retreat 11 = .ok (.getfield 30, 3) := by decide +kernel
theorem dX4_retreat_14 : decode cX4_retreat 14 = .ok (.iload_n 1, 1) := by decide +kernel
theorem dX4_retreat_15 : decode cX4_retreat 15 = .ok (.iaload, 1) := by decide +kernel
theorem dX4_retreat_16 : decode cX4_retreat 16 = .ok (.aload_n 0, 1) := by decide +kernel
theorem dX4_retreat_17 : decode cX4_retreat 17 = .ok (.getfield 27, 3) := by decide +kernel
theorem dX4_retreat_20 : decode cX4_retreat 20 = .ok (.iload_n 1, 1) := by decide +kernel
theorem dX4_retreat_21 : decode cX4_retreat 21 = .ok (.iaload, 1) := by decide +kernel
theorem dX4_retreat_22 : decode cX4_retreat 22 = .ok (.if_icmp .ne 8, 3) := by decide +kernel
theorem dX4_retreat_25 : decode cX4_retreat 25 = .ok (.aload_n 0, 1) := by decide +kernel
theorem dX4_retreat_26 : decode cX4_retreat 26 = .ok (.iload_n 1, 1) := by decide +kernel
theorem dX4_retreat_27 : decode cX4_retreat 27 = .ok (.invokevirtual 121, 3) := by decide +kernel
theorem dX4_retreat_30 : decode cX4_retreat 30 = .ok (.aload_n 0, 1) := by decide +kernel
theorem dX4_retreat_31 : decode cX4_retreat 31 = .ok (.getfield 52, 3) := by decide +kernel
theorem dX4_retreat_34 : decode cX4_retreat 34 = .ok (.ifCond .ne 4, 3) := by decide +kernel
theorem dX4_retreat_37 : decode cX4_retreat 37 = .ok (.return_, 1) := by decide +kernel
theorem dX4_retreat_38 : decode cX4_retreat 38 = .ok (.aload_n 0, 1) := by decide +kernel
theorem dX4_retreat_39 : decode cX4_retreat 39 = .ok (.getfield 36, 3) := by decide +kernel
theorem dX4_retreat_42 : decode cX4_retreat 42 = .ok (.aload_n 0, 1) := by decide +kernel
theorem dX4_retreat_43 : decode cX4_retreat 43 = .ok (.getfield 52, 3) := by decide +kernel
theorem dX4_retreat_46 : decode cX4_retreat 46 = .ok (.iconst 1, 1) := by decide +kernel
theorem dX4_retreat_47 : decode cX4_retreat 47 = .ok (.isub, 1) := by decide +kernel
theorem dX4_retreat_48 : decode cX4_retreat 48 = .ok (.iaload, 1) := by decide +kernel
theorem dX4_retreat_49 : decode cX4_retreat 49 = .ok (.istore_n 2, 1) := by decide +kernel
theorem dX4_retreat_50 : decode cX4_retreat 50 = .ok (.aload_n 0, 1) := by decide +kernel
theorem dX4_retreat_51 : decode cX4_retreat 51 = .ok (.getfield 15, 3) := by decide +kernel
theorem dX4_retreat_54 : decode cX4_retreat 54 = .ok (.iload_n 1, 1) := by decide +kernel
theorem dX4_retreat_55 : decode cX4_retreat 55 = .ok (.iaload, 1) := by decide +kernel
theorem dX4_retreat_56 : decode cX4_retreat 56 = .ok (.bipush (-5), 2) := by decide +kernel
theorem dX4_retreat_58 : decode cX4_retreat 58 = .ok (.if_icmp .ne 27, 3) := by decide +kernel
theorem dX4_retreat_61 : decode cX4_retreat 61 = .ok (.aload_n 0, 1) := by decide +kernel
theorem dX4_retreat_62 : decode cX4_retreat 62 = .ok (.getfield 30, 3) := by decide +kernel
theorem dX4_retreat_65 : decode cX4_retreat 65 = .ok (.iload_n 2, 1) := by decide +kernel
theorem dX4_retreat_66 : decode cX4_retreat 66 = .ok (.aload_n 0, 1) := by decide +kernel
theorem dX4_retreat_67 : decode cX4_retreat 67 = .ok (.getfield 30, 3) := by decide +kernel
theorem dX4_retreat_70 : decode cX4_retreat 70 = .ok (.iload_n 2, 1) := by decide +kernel
theorem dX4_retreat_71 : decode cX4_retreat 71 = .ok (.iaload, 1) := by decide +kernel
theorem dX4_retreat_72 : decode cX4_retreat 72 = .ok (.aload_n 0, 1) := by decide +kernel
theorem dX4_retreat_73 : decode cX4_retreat 73 = .ok (.getfield 30, 3) := by decide +kernel
theorem dX4_retreat_76 : decode cX4_retreat 76 = .ok (.iload_n 1, 1) := by decide +kernel
theorem dX4_retreat_77 : decode cX4_retreat 77 = .ok (.iaload, 1) := by decide +kernel
theorem dX4_retreat_78 : decode cX4_retreat 78 = .ok (.invokestatic 99, 3) := by decide +kernel
theorem dX4_retreat_81 : decode cX4_retreat 81 = .ok (.iastore, 1) := by decide +kernel
theorem dX4_retreat_82 : decode cX4_retreat 82 = .ok (.goto 24, 3) := by decide +kernel
theorem dX4_retreat_85 : decode cX4_retreat 85 = .ok (.aload_n 0, 1) := by decide +kernel
theorem dX4_retreat_86 : decode cX4_retreat 86 = .ok (.getfield 9, 3) := by decide +kernel
theorem dX4_retreat_89 : decode cX4_retreat 89 = .ok (.iload_n 2, 1) := by decide +kernel
theorem dX4_retreat_90 : decode cX4_retreat 90 = .ok (.aload_n 0, 1) := by decide +kernel
theorem dX4_retreat_91 : decode cX4_retreat 91 = .ok (.getfield 9, 3) := by decide +kernel
theorem dX4_retreat_94 : decode cX4_retreat 94 = .ok (.iload_n 2, 1) := by decide +kernel
theorem dX4_retreat_95 : decode cX4_retreat 95 = .ok (.iaload, 1) := by decide +kernel
theorem dX4_retreat_96 : decode cX4_retreat 96 = .ok (.aload_n 0, 1) := by decide +kernel
theorem dX4_retreat_97 : decode cX4_retreat 97 = .ok (.getfield 15, 3) := by decide +kernel
theorem dX4_retreat_100 : decode cX4_retreat 100 = .ok (.iload_n 1, 1) := by decide +kernel
theorem dX4_retreat_101 : decode cX4_retreat 101 = .ok (.iaload, 1) := by decide +kernel
theorem dX4_retreat_102 : decode cX4_retreat 102 = .ok (.invokestatic 105, 3) := by decide +kernel
theorem dX4_retreat_105 : decode cX4_retreat 105 = .ok (.iastore, 1) := by decide +kernel
theorem dX4_retreat_106 : decode cX4_retreat 106 = .ok (.return_, 1) := by decide +kernel
theorem b_X4_retreat_0 {i : Nat} {x1 : Int} {σ : St} {Q : Res → St → Prop} (h : (in32 ((σ 5 i 11) - 1)) ∧ ((0 ≤ x1 ∧ x1 < 1024) ∧ ((0 ≤ x1 ∧ x1 < 1024) ∧ ((((σ 33 i x1.toNat) ≠ (σ 32 i x1.toNat)) → (WP mX4_retreat 30 [vR 5 i, vI x1, vU] [] (up σ 5 i 11 ((σ 5 i 11) - 1)) Q)) ∧ (((σ 33 i x1.toNat) = (σ 32 i x1.toNat)) → (WP mX4_close 0 [vR 5 i, vI x1, vU, vU, vU, vU, vU] [] (up σ 5 i 11 ((σ 5 i 11) - 1)) (CT mX4_retreat 30 [vR 5 i, vI x1, vU] [] Q))))))) : WP mX4_retreat 0 [vR 5 i, vI x1, vU] [] σ Q := by
  refine wp_aload_n dX4_retreat_0 rfl rfl ?_
  refine wp_dup dX4_retreat_1 ?_
  refine wp_getI dX4_retreat_2 fl_CustomValley_Rests_52 rfl rfl rfl ?_
  refine wp_iconst dX4_retreat_5 rfl ?_
  have s3 := h.1
  replace h := h.2
  refine wp_isub dX4_retreat_6 ?_ (h1 := s3.1) (h2 := s3.2)
  refine wp_putI dX4_retreat_7 fp_CustomValley_Rests_52 rfl rfl rfl ?_
  refine wp_aload_n dX4_retreat_10 rfl rfl ?_
  refine wp_getR dX4_retreat_11 fl_CustomValley_Rests_30 rfl rfl ?_
  refine wp_iload_n dX4_retreat_14 rfl rfl ?_
  have s2 := h.1
  replace h := h.2
  refine wp_iaload dX4_retreat_15 rfl rfl s2.1 s2.2 ?_
  rw [show (up σ 5 i 11 ((σ 5 i 11) - 1)) 33 i x1.toNat = σ 33 i x1.toNat from by simp [up]]
  refine wp_aload_n dX4_retreat_16 rfl rfl ?_
  refine wp_getR dX4_retreat_17 fl_CustomValley_Rests_27 rfl rfl ?_
  refine wp_iload_n dX4_retreat_20 rfl rfl ?_
  have s1 := h.1
  replace h := h.2
  refine wp_iaload dX4_retreat_21 rfl rfl s1.1 s1.2 ?_
  rw [show (up σ 5 i 11 ((σ 5 i 11) - 1)) 32 i x1.toNat = σ 32 i x1.toNat from by simp [up]]
  refine wp_icmp_ne (tgt := 30) dX4_retreat_22 (by decide) (fun hc => ?_) (fun hc => ?_)
  · replace h := h.1 hc
    exact h
  · replace h := h.2 hc
    refine wp_aload_n dX4_retreat_25 rfl rfl ?_
    refine wp_iload_n dX4_retreat_26 rfl rfl ?_
    refine wp_invV (N := mX4_close) [vI x1] dX4_retreat_27 ml_CustomValley_Rests_121 mvX4_close rfl rfl rfl rfl rfl (Nat.le_of_ble_eq_true rfl) (Nat.le_of_ble_eq_true rfl) (by decide) (by decide) (by decide) ?_
    exact h
theorem b_X4_retreat_30 {i : Nat} {x1 : Int} {σ : St} {Q : Res → St → Prop} (h : (((σ 5 i 11) ≠ 0) → ((in32 ((σ 5 i 11) - 1)) ∧ ((0 ≤ (σ 5 i 11) - 1 ∧ ((σ 5 i 11) - 1) < 1024) ∧ ((0 ≤ x1 ∧ x1 < 1024) ∧ ((((σ 28 i x1.toNat) ≠ (-5)) → ((0 ≤ σ 35 i (((σ 5 i 11) - 1).toNat) ∧ (σ 35 i (((σ 5 i 11) - 1).toNat)) < 1024) ∧ ((0 ≤ x1 ∧ x1 < 1024) ∧ ((0 ≤ σ 35 i (((σ 5 i 11) - 1).toNat) ∧ (σ 35 i (((σ 5 i 11) - 1).toNat)) < 1024) ∧ (Q (.inl none) (up σ 27 i ((σ 35 i (((σ 5 i 11) - 1).toNat)).toNat) (jn (σ 27 i ((σ 35 i (((σ 5 i 11) - 1).toNat)).toNat)) (σ 28 i x1.toNat)))))))) ∧ (((σ 28 i x1.toNat) = (-5)) → ((0 ≤ σ 35 i (((σ 5 i 11) - 1).toNat) ∧ (σ 35 i (((σ 5 i 11) - 1).toNat)) < 1024) ∧ ((0 ≤ x1 ∧ x1 < 1024) ∧ ((0 ≤ σ 35 i (((σ 5 i 11) - 1).toNat) ∧ (σ 35 i (((σ 5 i 11) - 1).toNat)) < 1024) ∧ (Q (.inl none) (up σ 33 i ((σ 35 i (((σ 5 i 11) - 1).toNat)).toNat) (min (σ 33 i ((σ 35 i (((σ 5 i 11) - 1).toNat)).toNat)) (σ 33 i x1.toNat))))))))))))) ∧ (((σ 5 i 11) = 0) → (Q (.inl none) σ))) : WP mX4_retreat 30 [vR 5 i, vI x1, vU] [] σ Q := by
  refine wp_aload_n dX4_retreat_30 rfl rfl ?_
  refine wp_getI dX4_retreat_31 fl_CustomValley_Rests_52 rfl rfl rfl ?_
  refine wp_if_ne (tgt := 38) dX4_retreat_34 (by decide) (fun hc => ?_) (fun hc => ?_)
  · replace h := h.1 hc
    refine wp_aload_n dX4_retreat_38 rfl rfl ?_
    refine wp_getR dX4_retreat_39 fl_CustomValley_Rests_36 rfl rfl ?_
    refine wp_aload_n dX4_retreat_42 rfl rfl ?_
    refine wp_getI dX4_retreat_43 fl_CustomValley_Rests_52 rfl rfl rfl ?_
    refine wp_iconst dX4_retreat_46 rfl ?_
    have s9 := h.1
    replace h := h.2
    refine wp_isub dX4_retreat_47 ?_ (h1 := s9.1) (h2 := s9.2)
    have s8 := h.1
    replace h := h.2
    refine wp_iaload dX4_retreat_48 rfl rfl s8.1 s8.2 ?_
    refine wp_istore_n dX4_retreat_49 rfl (by decide) rfl rfl ?_
    refine wp_aload_n dX4_retreat_50 rfl rfl ?_
    refine wp_getR dX4_retreat_51 fl_CustomValley_Rests_15 rfl rfl ?_
    refine wp_iload_n dX4_retreat_54 rfl rfl ?_
    have s7 := h.1
    replace h := h.2
    refine wp_iaload dX4_retreat_55 rfl rfl s7.1 s7.2 ?_
    refine wp_bipush dX4_retreat_56 rfl ?_
    refine wp_icmp_ne (tgt := 85) dX4_retreat_58 (by decide) (fun hc => ?_) (fun hc => ?_)
    · replace h := h.1 hc
      refine wp_aload_n dX4_retreat_85 rfl rfl ?_
      refine wp_getR dX4_retreat_86 fl_CustomValley_Rests_9 rfl rfl ?_
      refine wp_iload_n dX4_retreat_89 rfl rfl ?_
      refine wp_aload_n dX4_retreat_90 rfl rfl ?_
      refine wp_getR dX4_retreat_91 fl_CustomValley_Rests_9 rfl rfl ?_
      refine wp_iload_n dX4_retreat_94 rfl rfl ?_
      have s3 := h.1
      replace h := h.2
      refine wp_iaload dX4_retreat_95 rfl rfl s3.1 s3.2 ?_
      refine wp_aload_n dX4_retreat_96 rfl rfl ?_
      refine wp_getR dX4_retreat_97 fl_CustomValley_Rests_15 rfl rfl ?_
      refine wp_iload_n dX4_retreat_100 rfl rfl ?_
      have s2 := h.1
      replace h := h.2
      refine wp_iaload dX4_retreat_101 rfl rfl s2.1 s2.2 ?_
      refine wp_invS (N := mX4_join) [vI (σ 27 i ((σ 35 i (((σ 5 i 11) - 1).toNat)).toNat)), vI (σ 28 i x1.toNat)] dX4_retreat_102 ml_CustomValley_Rests_105 mvX4_join rfl rfl rfl (Nat.le_of_ble_eq_true rfl) (Nat.le_of_ble_eq_true rfl) (by decide) (by decide) ?_
      refine pb_X4_join (by trivial) ?_
      show WP mX4_retreat 105 [vR 5 i, vI x1, vI (σ 35 i (((σ 5 i 11) - 1).toNat))] [vI (jn (σ 27 i ((σ 35 i (((σ 5 i 11) - 1).toNat)).toNat)) (σ 28 i x1.toNat)), vI (σ 35 i (((σ 5 i 11) - 1).toNat)), vR 27 i] σ Q
      have s1 := h.1
      replace h := h.2
      refine wp_iastore dX4_retreat_105 rfl rfl s1.1 s1.2 ?_
      exact wp_ret dX4_retreat_106 rfl h
    · replace h := h.2 hc
      refine wp_aload_n dX4_retreat_61 rfl rfl ?_
      refine wp_getR dX4_retreat_62 fl_CustomValley_Rests_30 rfl rfl ?_
      refine wp_iload_n dX4_retreat_65 rfl rfl ?_
      refine wp_aload_n dX4_retreat_66 rfl rfl ?_
      refine wp_getR dX4_retreat_67 fl_CustomValley_Rests_30 rfl rfl ?_
      refine wp_iload_n dX4_retreat_70 rfl rfl ?_
      have s6 := h.1
      replace h := h.2
      refine wp_iaload dX4_retreat_71 rfl rfl s6.1 s6.2 ?_
      refine wp_aload_n dX4_retreat_72 rfl rfl ?_
      refine wp_getR dX4_retreat_73 fl_CustomValley_Rests_30 rfl rfl ?_
      refine wp_iload_n dX4_retreat_76 rfl rfl ?_
      have s5 := h.1
      replace h := h.2
      refine wp_iaload dX4_retreat_77 rfl rfl s5.1 s5.2 ?_
      refine wp_mmin dX4_retreat_78 mm_CustomValley_Rests_99 (by decide) (Nat.le_of_ble_eq_true rfl) ?_
      have s4 := h.1
      replace h := h.2
      refine wp_iastore dX4_retreat_81 rfl rfl s4.1 s4.2 ?_
      refine wp_goto (tgt := 106) dX4_retreat_82 (by decide) ?_
      exact wp_ret dX4_retreat_106 rfl h
  · replace h := h.2 hc
    exact wp_ret dX4_retreat_37 rfl h
theorem dX4_advance_0 : decode cX4_advance 0 = .ok (.aload_n 0, 1) := by decide +kernel
theorem dX4_advance_1 : decode cX4_advance 1 = .ok (.getfield 36, 3) := by decide +kernel
theorem dX4_advance_4 : decode cX4_advance 4 = .ok (.aload_n 0, 1) := by decide +kernel
theorem dX4_advance_5 : decode cX4_advance 5 = .ok (.getfield 52, 3) := by decide +kernel
theorem dX4_advance_8 : decode cX4_advance 8 = .ok (.iconst 1, 1) := by decide +kernel
theorem dX4_advance_9 : decode cX4_advance 9 = .ok (.isub, 1) := by decide +kernel
theorem dX4_advance_10 : decode cX4_advance 10 = .ok (.iaload, 1) := by decide +kernel
theorem dX4_advance_11 : decode cX4_advance 11 = .ok (.istore_n 2, 1) := by decide +kernel
theorem dX4_advance_12 : decode cX4_advance 12 = .ok (.aload_n 0, 1) := by decide +kernel
theorem dX4_advance_13 : decode cX4_advance 13 = .ok (.aload_n 1, 1) := by decide +kernel
theorem dX4_advance_14 : decode cX4_advance 14 = .ok (.iload_n 2, 1) := by decide +kernel
theorem dX4_advance_15 : decode cX4_advance 15 = .ok (.invokevirtual 92, 3) := by decide +kernel
theorem dX4_advance_18 : decode cX4_advance 18 = .ok (.istore_n 3, 1) := by decide +kernel
theorem dX4_advance_19 : decode cX4_advance 19 = .ok (.iload_n 3, 1) := by decide +kernel
theorem dX4_advance_20 : decode cX4_advance 20 = .ok (.iconst (-1), 1) := by decide +kernel
theorem dX4_advance_21 : decode cX4_advance 21 = .ok (.if_icmp .ne 11, 3) := by decide +kernel
theorem dX4_advance_24 : decode cX4_advance 24 = .ok (.aload_n 0, 1) := by decide +kernel
theorem dX4_advance_25 : decode cX4_advance 25 = .ok (.iload_n 2, 1) := by decide +kernel
theorem dX4_advance_26 : decode cX4_advance 26 = .ok (.invokevirtual 96, 3) := by decide +kernel
theorem dX4_advance_29 : decode cX4_advance 29 = .ok (.goto 76, 3) := by decide +kernel
theorem dX4_advance_32 : decode cX4_advance 32 = .ok (.aload_n 0, 1) := by decide +kernel
theorem dX4_advance_33 : decode cX4_advance 33 = .ok (.getfield 27, 3) := by decide +kernel
theorem dX4_advance_36 : decode cX4_advance 36 = .ok (.iload_n 3, 1) := by decide +kernel
theorem dX4_advance_37 : decode cX4_advance 37 = .ok (.iaload, 1) := by decide +kernel
theorem dX4_advance_38 : decode cX4_advance 38 = .ok (.ifCond .ne 11, 3) := by decide +kernel
theorem dX4_advance_41 : decode cX4_advance 41 = .ok (.aload_n 0, 1) := by decide +kernel
theorem dX4_advance_42 : decode cX4_advance 42 = .ok (.iload_n 3, 1) := by decide +kernel
theorem dX4_advance_43 : decode cX4_advance 43 = .ok (.invokevirtual 76, 3) := by decide +kernel
theorem dX4_advance_46 : decode cX4_advance 46 = .ok (.goto 59, 3) := by decide +kernel
theorem dX4_advance_49 : decode cX4_advance 49 = .ok (.aload_n 0, 1) := by decide +kernel
theorem dX4_advance_50 : decode cX4_advance 50 = .ok (.getfield 15, 3) := by decide +kernel
theorem dX4_advance_53 : decode cX4_advance 53 = .ok (.iload_n 3, 1) := by decide +kernel
theorem dX4_advance_54 : decode cX4_advance 54 = .ok (.iaload, 1) := by decide +kernel
theorem dX4_advance_55 : decode cX4_advance 55 = .ok (.bipush (-5), 2) := by decide +kernel
theorem dX4_advance_57 : decode cX4_advance 57 = .ok (.if_icmp .ne 27, 3) := by decide +kernel
theorem dX4_advance_60 : decode cX4_advance 60 = .ok (.aload_n 0, 1) := by decide +kernel
theorem dX4_advance_61 : decode cX4_advance 61 = .ok (.getfield 30, 3) := by decide +kernel
theorem dX4_advance_64 : decode cX4_advance 64 = .ok (.iload_n 2, 1) := by decide +kernel
theorem dX4_advance_65 : decode cX4_advance 65 = .ok (.aload_n 0, 1) := by decide +kernel
theorem dX4_advance_66 : decode cX4_advance 66 = .ok (.getfield 30, 3) := by decide +kernel
theorem dX4_advance_69 : decode cX4_advance 69 = .ok (.iload_n 2, 1) := by decide +kernel
theorem dX4_advance_70 : decode cX4_advance 70 = .ok (.iaload, 1) := by decide +kernel
theorem dX4_advance_71 : decode cX4_advance 71 = .ok (.aload_n 0, 1) := by decide +kernel
theorem dX4_advance_72 : decode cX4_advance 72 = .ok (.getfield 27, 3) := by decide +kernel
theorem dX4_advance_75 : decode cX4_advance 75 = .ok (.iload_n 3, 1) := by decide +kernel
theorem dX4_advance_76 : decode cX4_advance 76 = .ok (.iaload, 1) := by decide +kernel
theorem dX4_advance_77 : decode cX4_advance 77 = .ok (.invokestatic 99, 3) := by decide +kernel
theorem dX4_advance_80 : decode cX4_advance 80 = .ok (.iastore, 1) := by decide +kernel
theorem dX4_advance_81 : decode cX4_advance 81 = .ok (.goto 24, 3) := by decide +kernel
theorem dX4_advance_84 : decode cX4_advance 84 = .ok (.aload_n 0, 1) := by decide +kernel
theorem dX4_advance_85 : decode cX4_advance 85 = .ok (.getfield 9, 3) := by decide +kernel
theorem dX4_advance_88 : decode cX4_advance 88 = .ok (.iload_n 2, 1) := by decide +kernel
theorem dX4_advance_89 : decode cX4_advance 89 = .ok (.aload_n 0, 1) := by decide +kernel
theorem dX4_advance_90 : decode cX4_advance 90 = .ok (.getfield 9, 3) := by decide +kernel
theorem dX4_advance_93 : decode cX4_advance 93 = .ok (.iload_n 2, 1) := by decide +kernel
theorem dX4_advance_94 : decode cX4_advance 94 = .ok (.iaload, 1) := by decide +kernel
theorem dX4_advance_95 : decode cX4_advance 95 = .ok (.aload_n 0, 1) := by decide +kernel
theorem dX4_advance_96 : decode cX4_advance 96 = .ok (.getfield 15, 3) := by decide +kernel
theorem dX4_advance_99 : decode cX4_advance 99 = .ok (.iload_n 3, 1) := by decide +kernel
theorem dX4_advance_100 : decode cX4_advance 100 = .ok (.iaload, 1) := by decide +kernel
theorem dX4_advance_101 : decode cX4_advance 101 = .ok (.invokestatic 105, 3) := by decide +kernel
theorem dX4_advance_104 : decode cX4_advance 104 = .ok (.iastore, 1) := by decide +kernel
theorem dX4_advance_105 : decode cX4_advance 105 = .ok (.return_, 1) := by decide +kernel
theorem b_X4_advance_0 {i : Nat} {j : Nat} {σ : St} {Q : Res → St → Prop} (h : (in32 ((σ 5 i 11) - 1)) ∧ ((0 ≤ (σ 5 i 11) - 1 ∧ ((σ 5 i 11) - 1) < 1024) ∧ (WP mX4_nextMove 0 [vR 5 i, vR 2 j, vI (σ 35 i (((σ 5 i 11) - 1).toNat)), vU, vU] [] σ (CT mX4_advance 18 [vR 5 i, vU, vI (σ 35 i (((σ 5 i 11) - 1).toNat)), vU] [] Q)))) : WP mX4_advance 0 [vR 5 i, vR 2 j, vU, vU] [] σ Q := by
  refine wp_aload_n dX4_advance_0 rfl rfl ?_
  refine wp_getR dX4_advance_1 fl_CustomValley_Rests_36 rfl rfl ?_
  refine wp_aload_n dX4_advance_4 rfl rfl ?_
  refine wp_getI dX4_advance_5 fl_CustomValley_Rests_52 rfl rfl rfl ?_
  refine wp_iconst dX4_advance_8 rfl ?_
  have s2 := h.1
  replace h := h.2
  refine wp_isub dX4_advance_9 ?_ (h1 := s2.1) (h2 := s2.2)
  have s1 := h.1
  replace h := h.2
  refine wp_iaload dX4_advance_10 rfl rfl s1.1 s1.2 ?_
  refine wp_istore_n dX4_advance_11 rfl (by decide) rfl rfl ?_
  refine wp_aload_n dX4_advance_12 rfl rfl ?_
  refine wp_aload_n dX4_advance_13 rfl rfl ?_
  refine wp_iload_n dX4_advance_14 rfl rfl ?_
  refine wp_invV (N := mX4_nextMove) [vR 2 j, vI (σ 35 i (((σ 5 i 11) - 1).toNat))] dX4_advance_15 ml_CustomValley_Rests_92 mvX4_nextMove rfl rfl rfl rfl rfl (Nat.le_of_ble_eq_true rfl) (Nat.le_of_ble_eq_true rfl) (by decide) (by decide) (by decide) ?_
  exact WP.mono h (ct_drop (lle_c (Or.inl rfl) (lle_c (Or.inr rfl) (lle_c (Or.inl rfl) (lle_c (Or.inl rfl) lle_n)))))
theorem b_X4_advance_18 {i : Nat} {x2 : Int} {t0 : Int} {σ : St} {Q : Res → St → Prop} (h : ((t0 ≠ (-1)) → ((0 ≤ t0 ∧ t0 < 1024) ∧ ((((σ 32 i t0.toNat) ≠ 0) → ((0 ≤ t0 ∧ t0 < 1024) ∧ ((((σ 28 i t0.toNat) ≠ (-5)) → ((0 ≤ x2 ∧ x2 < 1024) ∧ ((0 ≤ t0 ∧ t0 < 1024) ∧ ((0 ≤ x2 ∧ x2 < 1024) ∧ (Q (.inl none) (up σ 27 i x2.toNat (jn (σ 27 i x2.toNat) (σ 28 i t0.toNat)))))))) ∧ (((σ 28 i t0.toNat) = (-5)) → ((0 ≤ x2 ∧ x2 < 1024) ∧ ((0 ≤ t0 ∧ t0 < 1024) ∧ ((0 ≤ x2 ∧ x2 < 1024) ∧ (Q (.inl none) (up σ 33 i x2.toNat (min (σ 33 i x2.toNat) (σ 32 i t0.toNat))))))))))) ∧ (((σ 32 i t0.toNat) = 0) → (WP mX4_enter 0 [vR 5 i, vI t0] [] σ (CT mX4_advance 46 [vU, vU, vU, vU] [] Q)))))) ∧ ((t0 = (-1)) → (WP mX4_retreat 0 [vR 5 i, vI x2, vU] [] σ (CT mX4_advance 29 [vU, vU, vU, vU] [] Q)))) : WP mX4_advance 18 [vR 5 i, vU, vI x2, vU] [vI t0] σ Q := by
  refine wp_istore_n dX4_advance_18 rfl (by decide) rfl rfl ?_
  refine wp_iload_n dX4_advance_19 rfl rfl ?_
  refine wp_iconst dX4_advance_20 rfl ?_
  refine wp_icmp_ne (tgt := 32) dX4_advance_21 (by decide) (fun hc => ?_) (fun hc => ?_)
  · replace h := h.1 hc
    refine wp_aload_n dX4_advance_32 rfl rfl ?_
    refine wp_getR dX4_advance_33 fl_CustomValley_Rests_27 rfl rfl ?_
    refine wp_iload_n dX4_advance_36 rfl rfl ?_
    have s8 := h.1
    replace h := h.2
    refine wp_iaload dX4_advance_37 rfl rfl s8.1 s8.2 ?_
    refine wp_if_ne (tgt := 49) dX4_advance_38 (by decide) (fun hc => ?_) (fun hc => ?_)
    · replace h := h.1 hc
      refine wp_aload_n dX4_advance_49 rfl rfl ?_
      refine wp_getR dX4_advance_50 fl_CustomValley_Rests_15 rfl rfl ?_
      refine wp_iload_n dX4_advance_53 rfl rfl ?_
      have s7 := h.1
      replace h := h.2
      refine wp_iaload dX4_advance_54 rfl rfl s7.1 s7.2 ?_
      refine wp_bipush dX4_advance_55 rfl ?_
      refine wp_icmp_ne (tgt := 84) dX4_advance_57 (by decide) (fun hc => ?_) (fun hc => ?_)
      · replace h := h.1 hc
        refine wp_aload_n dX4_advance_84 rfl rfl ?_
        refine wp_getR dX4_advance_85 fl_CustomValley_Rests_9 rfl rfl ?_
        refine wp_iload_n dX4_advance_88 rfl rfl ?_
        refine wp_aload_n dX4_advance_89 rfl rfl ?_
        refine wp_getR dX4_advance_90 fl_CustomValley_Rests_9 rfl rfl ?_
        refine wp_iload_n dX4_advance_93 rfl rfl ?_
        have s3 := h.1
        replace h := h.2
        refine wp_iaload dX4_advance_94 rfl rfl s3.1 s3.2 ?_
        refine wp_aload_n dX4_advance_95 rfl rfl ?_
        refine wp_getR dX4_advance_96 fl_CustomValley_Rests_15 rfl rfl ?_
        refine wp_iload_n dX4_advance_99 rfl rfl ?_
        have s2 := h.1
        replace h := h.2
        refine wp_iaload dX4_advance_100 rfl rfl s2.1 s2.2 ?_
        refine wp_invS (N := mX4_join) [vI (σ 27 i x2.toNat), vI (σ 28 i t0.toNat)] dX4_advance_101 ml_CustomValley_Rests_105 mvX4_join rfl rfl rfl (Nat.le_of_ble_eq_true rfl) (Nat.le_of_ble_eq_true rfl) (by decide) (by decide) ?_
        refine pb_X4_join (by trivial) ?_
        show WP mX4_advance 104 [vR 5 i, vU, vI x2, vI t0] [vI (jn (σ 27 i x2.toNat) (σ 28 i t0.toNat)), vI x2, vR 27 i] σ Q
        have s1 := h.1
        replace h := h.2
        refine wp_iastore dX4_advance_104 rfl rfl s1.1 s1.2 ?_
        exact wp_ret dX4_advance_105 rfl h
      · replace h := h.2 hc
        refine wp_aload_n dX4_advance_60 rfl rfl ?_
        refine wp_getR dX4_advance_61 fl_CustomValley_Rests_30 rfl rfl ?_
        refine wp_iload_n dX4_advance_64 rfl rfl ?_
        refine wp_aload_n dX4_advance_65 rfl rfl ?_
        refine wp_getR dX4_advance_66 fl_CustomValley_Rests_30 rfl rfl ?_
        refine wp_iload_n dX4_advance_69 rfl rfl ?_
        have s6 := h.1
        replace h := h.2
        refine wp_iaload dX4_advance_70 rfl rfl s6.1 s6.2 ?_
        refine wp_aload_n dX4_advance_71 rfl rfl ?_
        refine wp_getR dX4_advance_72 fl_CustomValley_Rests_27 rfl rfl ?_
        refine wp_iload_n dX4_advance_75 rfl rfl ?_
        have s5 := h.1
        replace h := h.2
        refine wp_iaload dX4_advance_76 rfl rfl s5.1 s5.2 ?_
        refine wp_mmin dX4_advance_77 mm_CustomValley_Rests_99 (by decide) (Nat.le_of_ble_eq_true rfl) ?_
        have s4 := h.1
        replace h := h.2
        refine wp_iastore dX4_advance_80 rfl rfl s4.1 s4.2 ?_
        refine wp_goto (tgt := 105) dX4_advance_81 (by decide) ?_
        exact wp_ret dX4_advance_105 rfl h
    · replace h := h.2 hc
      refine wp_aload_n dX4_advance_41 rfl rfl ?_
      refine wp_iload_n dX4_advance_42 rfl rfl ?_
      refine wp_invV (N := mX4_enter) [vI t0] dX4_advance_43 ml_CustomValley_Rests_76 mvX4_enter rfl rfl rfl rfl rfl (Nat.le_of_ble_eq_true rfl) (Nat.le_of_ble_eq_true rfl) (by decide) (by decide) (by decide) ?_
      exact WP.mono h (ct_drop (lle_c (Or.inr rfl) (lle_c (Or.inl rfl) (lle_c (Or.inr rfl) (lle_c (Or.inr rfl) lle_n)))))
  · replace h := h.2 hc
    refine wp_aload_n dX4_advance_24 rfl rfl ?_
    refine wp_iload_n dX4_advance_25 rfl rfl ?_
    refine wp_invV (N := mX4_retreat) [vI x2] dX4_advance_26 ml_CustomValley_Rests_96 mvX4_retreat rfl rfl rfl rfl rfl (Nat.le_of_ble_eq_true rfl) (Nat.le_of_ble_eq_true rfl) (by decide) (by decide) (by decide) ?_
    exact WP.mono h (ct_drop (lle_c (Or.inr rfl) (lle_c (Or.inl rfl) (lle_c (Or.inr rfl) (lle_c (Or.inr rfl) lle_n)))))
theorem b_X4_advance_29  {σ : St} {Q : Res → St → Prop} (h : Q (.inl none) σ) : WP mX4_advance 29 [vU, vU, vU, vU] [] σ Q := by
  refine wp_goto (tgt := 105) dX4_advance_29 (by decide) ?_
  exact wp_ret dX4_advance_105 rfl h
theorem b_X4_advance_46  {σ : St} {Q : Res → St → Prop} (h : Q (.inl none) σ) : WP mX4_advance 46 [vU, vU, vU, vU] [] σ Q := by
  refine wp_goto (tgt := 105) dX4_advance_46 (by decide) ?_
  exact wp_ret dX4_advance_105 rfl h
theorem dX1_measure_0 : decode cX1_measure 0 = .ok (.aload_n 0, 1) := by decide +kernel
theorem dX1_measure_1 : decode cX1_measure 1 = .ok (.getfield 43, 3) := by decide +kernel
theorem dX1_measure_4 : decode cX1_measure 4 = .ok (.ifCond .ne 15, 3) := by decide +kernel
theorem dX1_measure_7 : decode cX1_measure 7 = .ok (.aload_n 0, 1) := by decide +kernel
theorem dX1_measure_8 : decode cX1_measure 8 = .ok (.getfield 28, 3) := by decide +kernel
theorem dX1_measure_11 : decode cX1_measure 11 = .ok (.getfield 58, 3) := by decide +kernel
theorem dX1_measure_14 : decode cX1_measure 14 = .ok (.bipush 12, 2) := by decide +kernel
theorem dX1_measure_16 : decode cX1_measure 16 = .ok (.if_icmp .le 4, 3) := by decide +kernel
theorem dX1_measure_19 : decode cX1_measure 19 = .ok (.return_, 1) := by decide +kernel
theorem dX1_measure_20 : decode cX1_measure 20 = .ok (.iconst 0, 1) := by decide +kernel
theorem dX1_measure_21 : decode cX1_measure 21 = .ok (.istore_n 2, 1) := by decide +kernel
theorem dX1_measure_22 : decode cX1_measure 22 = .ok (.iload_n 2, 1) := by decide +kernel
theorem dX1_measure_23 : decode cX1_measure 23 = .ok (.aload_n 0, 1) := by decide +kernel
theorem dX1_measure_24 : decode cX1_measure 24 = .ok (.getfield 28, 3) := by decide +kernel
theorem dX1_measure_27 : decode cX1_measure 27 = .ok (.getfield 58, 3) := by decide +kernel
theorem dX1_measure_30 : decode cX1_measure 30 = .ok (.if_icmp .ge 58, 3) := by decide +kernel
theorem dX1_measure_33 : decode cX1_measure 33 = .ok (.aload_n 1, 1) := by decide +kernel
theorem dX1_measure_34 : decode cX1_measure 34 = .ok (.aload_n 0, 1) := by decide +kernel
theorem dX1_measure_35 : decode cX1_measure 35 = .ok (.iload_n 2, 1) := by decide +kernel
theorem dX1_measure_36 : decode cX1_measure 36 = .ok (.invokevirtual 62, 3) := by decide +kernel
theorem dX1_measure_39 : decode cX1_measure 39 = .ok (.iconst 0, 1) := by decide +kernel
theorem dX1_measure_40 : decode cX1_measure 40 = .ok (.istore_n 3, 1) := by decide +kernel
theorem dX1_measure_41 : decode cX1_measure 41 = .ok (.iload_n 3, 1) := by decide +kernel
theorem dX1_measure_42 : decode cX1_measure 42 = .ok (.aload_n 0, 1) := by decide +kernel
theorem dX1_measure_43 : decode cX1_measure 43 = .ok (.getfield 28, 3) := by decide +kernel
theorem dX1_measure_46 : decode cX1_measure 46 = .ok (.getfield 58, 3) := by decide +kernel
theorem dX1_measure_49 : decode cX1_measure 49 = .ok (.if_icmp .ge 33, 3) := by decide +kernel
theorem dX1_measure_52 : decode cX1_measure 52 = .ok (.aload_n 0, 1) := by decide +kernel
theorem dX1_measure_53 : decode cX1_measure 53 = .ok (.getfield 32, 3) := by decide +kernel
theorem dX1_measure_56 : decode cX1_measure 56 = .ok (.iload_n 3, 1) := by decide +kernel
theorem dX1_measure_57 : decode cX1_measure 57 = .ok (.bipush 12, 2) := by decide +kernel
theorem dX1_measure_59 : decode cX1_measure 59 = .ok (.imul, 1) := by decide +kernel
theorem dX1_measure_60 : decode cX1_measure 60 = .ok (.iload_n 2, 1) := by decide +kernel
theorem dX1_measure_61 : decode cX1_measure 61 = .ok (.iadd, 1) := by decide +kernel
theorem dX1_measure_62 : decode cX1_measure 62 = .ok (.aload_n 1, 1) := by decide +kernel
theorem dX1_measure_63 : decode cX1_measure 63 = .ok (.getfield 68, 3) := by decide +kernel
theorem dX1_measure_66 : decode cX1_measure 66 = .ok (.aload_n 0, 1) := by decide +kernel
theorem dX1_measure_67 : decode cX1_measure 67 = .ok (.getfield 28, 3) := by decide +kernel
theorem dX1_measure_70 : decode cX1_measure 70 = .ok (.iload_n 3, 1) := by decide +kernel
theorem dX1_measure_71 : decode cX1_measure 71 = .ok (.invokevirtual 71, 3) := by decide +kernel
theorem dX1_measure_74 : decode cX1_measure 74 = .ok (.iaload, 1) := by decide +kernel
theorem dX1_measure_75 : decode cX1_measure 75 = .ok (.iastore, 1) := by decide +kernel
theorem dX1_measure_76 : decode cX1_measure 76 = .ok (.iinc 3 1, 3) := by decide +kernel
theorem dX1_measure_79 : decode cX1_measure 79 = .ok (.goto (-38), 3) := by decide +kernel
theorem dX1_measure_82 : decode cX1_measure 82 = .ok (.iinc 2 1, 3) := by decide +kernel
theorem dX1_measure_85 : decode cX1_measure 85 = .ok (.goto (-63), 3) := by decide +kernel
theorem dX1_measure_88 : decode cX1_measure 88 = .ok (.aload_n 0, 1) := by decide +kernel
theorem dX1_measure_89 : decode cX1_measure 89 = .ok (.iconst 1, 1) := by decide +kernel
theorem dX1_measure_90 : decode cX1_measure 90 = .ok (.putfield 43, 3) := by decide +kernel
theorem dX1_measure_93 : decode cX1_measure 93 = .ok (.return_, 1) := by decide +kernel
theorem b_X1_measure_0 {i : Nat} {j : Nat} {σ : St} {Q : Res → St → Prop} (h : (((σ 2 i 6) ≠ 0) → (Q (.inl none) σ)) ∧ (((σ 2 i 6) = 0) → ((((σ 5 i 0) ≤ 12) → (WP mX1_measure 22 [vR 2 i, vR 6 j, vI 0, vU] [] σ Q)) ∧ ((12 < (σ 5 i 0)) → (Q (.inl none) σ))))) : WP mX1_measure 0 [vR 2 i, vR 6 j, vU, vU] [] σ Q := by
  refine wp_aload_n dX1_measure_0 rfl rfl ?_
  refine wp_getI dX1_measure_1 fl_CustomValley_Land_43 rfl rfl rfl ?_
  refine wp_if_ne (tgt := 19) dX1_measure_4 (by decide) (fun hc => ?_) (fun hc => ?_)
  · replace h := h.1 hc
    exact wp_ret dX1_measure_19 rfl h
  · replace h := h.2 hc
    refine wp_aload_n dX1_measure_7 rfl rfl ?_
    refine wp_getR dX1_measure_8 fl_CustomValley_Land_28 rfl rfl ?_
    refine wp_getI dX1_measure_11 fl_CustomValley_Land_58 rfl rfl rfl ?_
    refine wp_bipush dX1_measure_14 rfl ?_
    refine wp_icmp_le (tgt := 20) dX1_measure_16 (by decide) (fun hc => ?_) (fun hc => ?_)
    · replace h := h.1 hc
      refine wp_iconst dX1_measure_20 rfl ?_
      refine wp_istore_n dX1_measure_21 rfl (by decide) rfl rfl ?_
      exact h
    · replace h := h.2 hc
      exact wp_ret dX1_measure_19 rfl h
theorem b_X1_measure_22 {i : Nat} {j : Nat} {x2 : Int} {σ : St} {Q : Res → St → Prop} (h : (((σ 5 i 0) ≤ x2) → (Q (.inl none) (up σ 2 i 6 1))) ∧ ((x2 < (σ 5 i 0)) → (WP mX5_toRest 0 [vR 6 j, vR 2 i, vI x2, vU, vU] [] σ (CT mX1_measure 39 [vR 2 i, vR 6 j, vI x2, vU] [] Q)))) : WP mX1_measure 22 [vR 2 i, vR 6 j, vI x2, vU] [] σ Q := by
  refine wp_iload_n dX1_measure_22 rfl rfl ?_
  refine wp_aload_n dX1_measure_23 rfl rfl ?_
  refine wp_getR dX1_measure_24 fl_CustomValley_Land_28 rfl rfl ?_
  refine wp_getI dX1_measure_27 fl_CustomValley_Land_58 rfl rfl rfl ?_
  refine wp_icmp_ge (tgt := 88) dX1_measure_30 (by decide) (fun hc => ?_) (fun hc => ?_)
  · replace h := h.1 hc
    refine wp_aload_n dX1_measure_88 rfl rfl ?_
    refine wp_iconst dX1_measure_89 rfl ?_
    refine wp_putZ dX1_measure_90 fp_CustomValley_Land_43 rfl rfl rfl (by decide) ?_
    exact wp_ret dX1_measure_93 rfl h
  · replace h := h.2 hc
    refine wp_aload_n dX1_measure_33 rfl rfl ?_
    refine wp_aload_n dX1_measure_34 rfl rfl ?_
    refine wp_iload_n dX1_measure_35 rfl rfl ?_
    refine wp_invV (N := mX5_toRest) [vR 2 i, vI x2] dX1_measure_36 ml_CustomValley_Land_62 mvX5_toRest rfl rfl rfl rfl rfl (Nat.le_of_ble_eq_true rfl) (Nat.le_of_ble_eq_true rfl) (by decide) (by decide) (by decide) ?_
    exact h
theorem b_X1_measure_39 {i : Nat} {j : Nat} {x2 : Int} {σ : St} {Q : Res → St → Prop} (h : WP mX1_measure 41 [vR 2 i, vR 6 j, vI x2, vI 0] [] σ Q) : WP mX1_measure 39 [vR 2 i, vR 6 j, vI x2, vU] [] σ Q := by
  refine wp_iconst dX1_measure_39 rfl ?_
  refine wp_istore_n dX1_measure_40 rfl (by decide) rfl rfl ?_
  exact h
theorem b_X1_measure_41 {i : Nat} {j : Nat} {x2 : Int} {x3 : Int} {σ : St} {Q : Res → St → Prop} (h : (((σ 5 i 0) ≤ x3) → ((in32 (x2 + 1)) ∧ (WP mX1_measure 22 [vR 2 i, vR 6 j, vI (x2 + 1), vU] [] σ Q))) ∧ ((x3 < (σ 5 i 0)) → ((in32 (x3 * 12)) ∧ ((in32 ((x3 * 12) + x2)) ∧ ((0 ≤ x3 ∧ x3 < 1025 ∧ 0 ≤ σ 30 i x3.toNat ∧ (σ 30 i x3.toNat) < 1024) ∧ ((0 ≤ σ 29 i ((σ 30 i x3.toNat).toNat) ∧ (σ 29 i ((σ 30 i x3.toNat).toNat)) < 1024) ∧ ((0 ≤ (x3 * 12) + x2 ∧ ((x3 * 12) + x2) < 144) ∧ ((in32 (x3 + 1)) ∧ (WP mX1_measure 41 [vR 2 i, vR 6 j, vI x2, vI (x3 + 1)] [] (up σ 22 i (((x3 * 12) + x2).toNat) (σ 37 j ((σ 29 i ((σ 30 i x3.toNat).toNat)).toNat))) Q))))))))) : WP mX1_measure 41 [vR 2 i, vR 6 j, vI x2, vI x3] [] σ Q := by
  refine wp_iload_n dX1_measure_41 rfl rfl ?_
  refine wp_aload_n dX1_measure_42 rfl rfl ?_
  refine wp_getR dX1_measure_43 fl_CustomValley_Land_28 rfl rfl ?_
  refine wp_getI dX1_measure_46 fl_CustomValley_Land_58 rfl rfl rfl ?_
  refine wp_icmp_ge (tgt := 82) dX1_measure_49 (by decide) (fun hc => ?_) (fun hc => ?_)
  · replace h := h.1 hc
    have s1 := h.1
    replace h := h.2
    refine wp_iinc dX1_measure_82 rfl (by decide) rfl rfl ?_ (h1 := s1.1) (h2 := s1.2)
    refine wp_goto (tgt := 22) dX1_measure_85 (by decide) ?_
    exact wp_drop (als' := [vR 2 i, vR 6 j, vI (x2 + 1), vU]) (lle_c (Or.inl rfl) (lle_c (Or.inl rfl) (lle_c (Or.inl rfl) (lle_c (Or.inr rfl) lle_n)))) h
  · replace h := h.2 hc
    refine wp_aload_n dX1_measure_52 rfl rfl ?_
    refine wp_getR dX1_measure_53 fl_CustomValley_Land_32 rfl rfl ?_
    refine wp_iload_n dX1_measure_56 rfl rfl ?_
    refine wp_bipush dX1_measure_57 rfl ?_
    have s7 := h.1
    replace h := h.2
    refine wp_imul dX1_measure_59 ?_ (h1 := s7.1) (h2 := s7.2)
    refine wp_iload_n dX1_measure_60 rfl rfl ?_
    have s6 := h.1
    replace h := h.2
    refine wp_iadd dX1_measure_61 ?_ (h1 := s6.1) (h2 := s6.2)
    refine wp_aload_n dX1_measure_62 rfl rfl ?_
    refine wp_getR dX1_measure_63 fl_CustomValley_Land_68 rfl rfl ?_
    refine wp_aload_n dX1_measure_66 rfl rfl ?_
    refine wp_getR dX1_measure_67 fl_CustomValley_Land_28 rfl rfl ?_
    refine wp_iload_n dX1_measure_70 rfl rfl ?_
    have s5 := h.1
    replace h := h.2
    refine wp_invV (N := mX4_least) [vI x3] dX1_measure_71 ml_CustomValley_Land_71 mvX4_least rfl rfl rfl rfl rfl (Nat.le_of_ble_eq_true rfl) (Nat.le_of_ble_eq_true rfl) (by decide) (by decide) (by decide) ?_
    refine pb_X4_least s5 ?_
    show WP mX1_measure 74 [vR 2 i, vR 6 j, vI x2, vI x3] [vI (σ 29 i ((σ 30 i x3.toNat).toNat)), vR 37 j, vI ((x3 * 12) + x2), vR 22 i] σ Q
    have s4 := h.1
    replace h := h.2
    refine wp_iaload dX1_measure_74 rfl rfl s4.1 s4.2 ?_
    have s3 := h.1
    replace h := h.2
    refine wp_iastore dX1_measure_75 rfl rfl s3.1 s3.2 ?_
    have s2 := h.1
    replace h := h.2
    refine wp_iinc dX1_measure_76 rfl (by decide) rfl rfl ?_ (h1 := s2.1) (h2 := s2.2)
    refine wp_goto (tgt := 41) dX1_measure_79 (by decide) ?_
    exact h
theorem dX1_reply_0 : decode cX1_reply 0 = .ok (.aload_n 0, 1) := by decide +kernel
theorem dX1_reply_1 : decode cX1_reply 1 = .ok (.getfield 36, 3) := by decide +kernel
theorem dX1_reply_4 : decode cX1_reply 4 = .ok (.ifCond .eq 5, 3) := by decide +kernel
theorem dX1_reply_7 : decode cX1_reply 7 = .ok (.iconst 0, 1) := by decide +kernel
theorem dX1_reply_8 : decode cX1_reply 8 = .ok (.ireturn, 1) := by decide +kernel
theorem dX1_reply_9 : decode cX1_reply 9 = .ok (.aload_n 0, 1) := by decide +kernel
theorem dX1_reply_10 : decode cX1_reply 10 = .ok (.iconst 1, 1) := by decide +kernel
theorem dX1_reply_11 : decode cX1_reply 11 = .ok (.putfield 36, 3) := by decide +kernel
theorem dX1_reply_14 : decode cX1_reply 14 = .ok (.aload_n 0, 1) := by decide +kernel
theorem dX1_reply_15 : decode cX1_reply 15 = .ok (.getfield 21, 3) := by decide +kernel
theorem dX1_reply_18 : decode cX1_reply 18 = .ok (.aload_n 0, 1) := by decide +kernel
theorem dX1_reply_19 : decode cX1_reply 19 = .ok (.getfield 12, 3) := by decide +kernel
theorem dX1_reply_22 : decode cX1_reply 22 = .ok (.invokevirtual 46, 3) := by decide +kernel
theorem dX1_reply_25 : decode cX1_reply 25 = .ok (.ireturn, 1) := by decide +kernel
theorem b_X1_reply_0 {i : Nat} {σ : St} {Q : Res → St → Prop} (h : (((σ 2 i 4) = 0) → (WP mX3_fill 0 [vR 4 i, vR 10 i, vU, vU, vU, vU, vU, vU] [] (up σ 2 i 4 1) (CT mX1_reply 25 [vU] [] Q))) ∧ (((σ 2 i 4) ≠ 0) → (Q (.inl (some (vI 0))) σ))) : WP mX1_reply 0 [vR 2 i] [] σ Q := by
  refine wp_aload_n dX1_reply_0 rfl rfl ?_
  refine wp_getI dX1_reply_1 fl_CustomValley_Land_36 rfl rfl rfl ?_
  refine wp_if_eq (tgt := 9) dX1_reply_4 (by decide) (fun hc => ?_) (fun hc => ?_)
  · replace h := h.1 hc
    refine wp_aload_n dX1_reply_9 rfl rfl ?_
    refine wp_iconst dX1_reply_10 rfl ?_
    refine wp_putZ dX1_reply_11 fp_CustomValley_Land_36 rfl rfl rfl (by decide) ?_
    refine wp_aload_n dX1_reply_14 rfl rfl ?_
    refine wp_getR dX1_reply_15 fl_CustomValley_Land_21 rfl rfl ?_
    refine wp_aload_n dX1_reply_18 rfl rfl ?_
    refine wp_getR dX1_reply_19 fl_CustomValley_Land_12 rfl rfl ?_
    refine wp_invV (N := mX3_fill) [vR 10 i] dX1_reply_22 ml_CustomValley_Land_46 mvX3_fill rfl rfl rfl rfl rfl (Nat.le_of_ble_eq_true rfl) (Nat.le_of_ble_eq_true rfl) (by decide) (by decide) (by decide) ?_
    exact WP.mono h (ct_drop (lle_c (Or.inr rfl) lle_n))
  · replace h := h.2 hc
    refine wp_iconst dX1_reply_7 rfl ?_
    exact wp_zret dX1_reply_8 rfl h (by decide)
theorem b_X1_reply_25 {t0 : Int} {σ : St} {Q : Res → St → Prop} (h : (t0 = 0 ∨ t0 = 1) ∧ Q (.inl (some (vI t0))) σ) : WP mX1_reply 25 [vU] [vI t0] σ Q := by
  have s1 := h.1
  replace h := h.2
  exact wp_zret dX1_reply_25 rfl h s1
theorem dX4_find_0 : decode cX4_find 0 = .ok (.aload_n 1, 1) := by decide +kernel
theorem dX4_find_1 : decode cX4_find 1 = .ok (.getfield 46, 3) := by decide +kernel
theorem dX4_find_4 : decode cX4_find 4 = .ok (.astore_n 2, 1) := by decide +kernel
theorem dX4_find_5 : decode cX4_find 5 = .ok (.aload_n 0, 1) := by decide +kernel
theorem dX4_find_6 : decode cX4_find 6 = .ok (.iconst 0, 1) := by decide +kernel
theorem dX4_find_7 : decode cX4_find 7 = .ok (.putfield 42, 3) := by decide +kernel
theorem dX4_find_10 : decode cX4_find 10 = .ok (.aload_n 0, 1) := by decide +kernel
theorem dX4_find_11 : decode cX4_find 11 = .ok (.iconst 0, 1) := by decide +kernel
theorem dX4_find_12 : decode cX4_find 12 = .ok (.putfield 52, 3) := by decide +kernel
theorem dX4_find_15 : decode cX4_find 15 = .ok (.aload_n 0, 1) := by decide +kernel
theorem dX4_find_16 : decode cX4_find 16 = .ok (.iconst 0, 1) := by decide +kernel
theorem dX4_find_17 : decode cX4_find 17 = .ok (.putfield 55, 3) := by decide +kernel
theorem dX4_find_20 : decode cX4_find 20 = .ok (.aload_n 0, 1) := by decide +kernel
theorem dX4_find_21 : decode cX4_find 21 = .ok (.iconst 0, 1) := by decide +kernel
theorem dX4_find_22 : decode cX4_find 22 = .ok (.putfield 58, 3) := by decide +kernel
theorem dX4_find_25 : decode cX4_find 25 = .ok (.aload_n 0, 1) := by decide +kernel
theorem dX4_find_26 : decode cX4_find 26 = .ok (.getfield 27, 3) := by decide +kernel
theorem dX4_find_29 : decode cX4_find 29 = .ok (.aload_n 2, 1) := by decide +kernel
theorem dX4_find_30 : decode cX4_find 30 = .ok (.getfield 61, 3) := by decide +kernel
theorem dX4_find_33 : decode cX4_find 33 = .ok (.iconst 0, 1) := by decide +kernel
theorem dX4_find_34 : decode cX4_find 34 = .ok (.invokestatic 66, 3) := by decide +kernel
theorem dX4_find_37 : decode cX4_find 37 = .ok (.aload_n 0, 1) := by decide +kernel
theorem dX4_find_38 : decode cX4_find 38 = .ok (.getfield 9, 3) := by decide +kernel
theorem dX4_find_41 : decode cX4_find 41 = .ok (.aload_n 2, 1) := by decide +kernel
theorem dX4_find_42 : decode cX4_find 42 = .ok (.getfield 61, 3) := by decide +kernel
theorem dX4_find_45 : decode cX4_find 45 = .ok (.iconst (-1), 1) := by decide +kernel
theorem dX4_find_46 : decode cX4_find 46 = .ok (.invokestatic 66, 3) := by decide +kernel
theorem dX4_find_49 : decode cX4_find 49 = .ok (.aload_n 0, 1) := by decide +kernel
theorem dX4_find_50 : decode cX4_find 50 = .ok (.getfield 15, 3) := by decide +kernel
theorem dX4_find_53 : decode cX4_find 53 = .ok (.aload_n 2, 1) := by decide +kernel
theorem dX4_find_54 : decode cX4_find 54 = .ok (.getfield 61, 3) := by decide +kernel
theorem dX4_find_57 : decode cX4_find 57 = .ok (.bipush (-5), 2) := by decide +kernel
theorem dX4_find_59 : decode cX4_find 59 = .ok (.invokestatic 66, 3) := by decide +kernel
theorem dX4_find_62 : decode cX4_find 62 = .ok (.iconst 0, 1) := by decide +kernel
theorem dX4_find_63 : decode cX4_find 63 = .ok (.istore_n 3, 1) := by decide +kernel
theorem dX4_find_64 : decode cX4_find 64 = .ok (.iload_n 3, 1) := by decide +kernel
theorem dX4_find_65 : decode cX4_find 65 = .ok (.aload_n 2, 1) := by decide +kernel
theorem dX4_find_66 : decode cX4_find 66 = .ok (.getfield 70, 3) := by decide +kernel
theorem dX4_find_69 : decode cX4_find 69 = .ok (.if_icmp .ge 64, 3) := by decide +kernel
theorem dX4_find_72 : decode cX4_find 72 = .ok (.aload_n 0, 1) := by decide +kernel
theorem dX4_find_73 : decode cX4_find 73 = .ok (.getfield 27, 3) := by decide +kernel
theorem dX4_find_76 : decode cX4_find 76 = .ok (.aload_n 2, 1) := by decide +kernel
theorem dX4_find_77 : decode cX4_find 77 = .ok (.getfield 73, 3) := by decide +kernel
theorem dX4_find_80 : decode cX4_find 80 = .ok (.iload_n 3, 1) := by decide +kernel
theorem dX4_find_81 : decode cX4_find 81 = .ok (.iaload, 1) := by decide +kernel
theorem dX4_find_82 : decode cX4_find 82 = .ok (.iaload, 1) := by decide +kernel
theorem dX4_find_83 : decode cX4_find 83 = .ok (.ifCond .eq 6, 3) := by decide +kernel
theorem dX4_find_86 : decode cX4_find 86 = .ok (.goto 41, 3) := by decide +kernel
theorem dX4_find_89 : decode cX4_find 89 = .ok (.aload_n 0, 1) := by decide +kernel
theorem dX4_find_90 : decode cX4_find 90 = .ok (.aload_n 2, 1) := by decide +kernel
theorem dX4_find_91 : decode cX4_find 91 = .ok (.getfield 73, 3) := by decide +kernel
theorem dX4_find_94 : decode cX4_find 94 = .ok (.iload_n 3, 1) := by decide +kernel
theorem dX4_find_95 : decode cX4_find 95 = .ok (.iaload, 1) := by decide +kernel
theorem dX4_find_96 : decode cX4_find 96 = .ok (.invokevirtual 76, 3) := by decide +kernel
theorem dX4_find_99 : decode cX4_find 99 = .ok (.iconst 0, 1) := by decide +kernel
theorem dX4_find_100 : decode cX4_find 100 = .ok (.istore 4, 2) := by decide +kernel
theorem dX4_find_102 : decode cX4_find 102 = .ok (.iload 4, 2) := by decide +kernel
theorem dX4_find_104 : decode cX4_find 104 = .ok (.ldc 80, 2) := by decide +kernel
theorem dX4_find_106 : decode cX4_find 106 = .ok (.if_icmp .ge 21, 3) := by decide +kernel
theorem dX4_find_109 : decode cX4_find 109 = .ok (.aload_n 0, 1) := by decide +kernel
theorem dX4_find_110 : decode cX4_find 110 = .ok (.getfield 52, 3) := by decide +kernel
theorem dX4_find_113 : decode cX4_find 113 = .ok (.ifCond .le 14, 3) := by decide +kernel
theorem dX4_find_116 : decode cX4_find 116 = .ok (.aload_n 0, 1) := by decide +kernel
theorem dX4_find_117 : decode cX4_find 117 = .ok (.aload_n 1, 1) := by decide +kernel
theorem dX4_find_118 : decode cX4_find 118 = .ok (.invokevirtual 81, 3) := by decide +kernel
theorem dX4_find_121 : decode cX4_find 121 = .ok (.iinc 4 1, 3) := by decide +kernel
theorem dX4_find_124 : decode cX4_find 124 = .ok (.goto (-22), 3) := by decide +kernel
theorem dX4_find_127 : decode cX4_find 127 = .ok (.iinc 3 1, 3) := by decide +kernel
theorem dX4_find_130 : decode cX4_find 130 = .ok (.goto (-66), 3) := by decide +kernel
theorem dX4_find_133 : decode cX4_find 133 = .ok (.aload_n 0, 1) := by decide +kernel
theorem dX4_find_134 : decode cX4_find 134 = .ok (.aload_n 2, 1) := by decide +kernel
theorem dX4_find_135 : decode cX4_find 135 = .ok (.invokevirtual 85, 3) := by decide +kernel
theorem dX4_find_138 : decode cX4_find 138 = .ok (.aload_n 0, 1) := by decide +kernel
theorem dX4_find_139 : decode cX4_find 139 = .ok (.aload_n 2, 1) := by decide +kernel
theorem dX4_find_140 : decode cX4_find 140 = .ok (.invokevirtual 89, 3) := by decide +kernel
theorem dX4_find_143 : decode cX4_find 143 = .ok (.return_, 1) := by decide +kernel
theorem b_X4_find_0 {i : Nat} {j : Nat} {σ : St} {Q : Res → St → Prop} (h : WP mX11_fillTo 0 [vR 32 i, vI (σ 10 j 11), vI 0, vU] [] (up (up (up (up σ 5 i 0 0) 5 i 11 0) 5 i 12 0) 5 i 13 0) (CT mX4_find 37 [vR 5 i, vR 2 j, vR 10 j, vU, vU] [] Q)) : WP mX4_find 0 [vR 5 i, vR 2 j, vU, vU, vU] [] σ Q := by
  refine wp_aload_n dX4_find_0 rfl rfl ?_
  refine wp_getR dX4_find_1 fl_CustomValley_Rests_46 rfl rfl ?_
  refine wp_astore_n dX4_find_4 rfl (by decide) rfl rfl ?_
  refine wp_aload_n dX4_find_5 rfl rfl ?_
  refine wp_iconst dX4_find_6 rfl ?_
  refine wp_putI dX4_find_7 fp_CustomValley_Rests_42 rfl rfl rfl ?_
  refine wp_aload_n dX4_find_10 rfl rfl ?_
  refine wp_iconst dX4_find_11 rfl ?_
  refine wp_putI dX4_find_12 fp_CustomValley_Rests_52 rfl rfl rfl ?_
  refine wp_aload_n dX4_find_15 rfl rfl ?_
  refine wp_iconst dX4_find_16 rfl ?_
  refine wp_putI dX4_find_17 fp_CustomValley_Rests_55 rfl rfl rfl ?_
  refine wp_aload_n dX4_find_20 rfl rfl ?_
  refine wp_iconst dX4_find_21 rfl ?_
  refine wp_putI dX4_find_22 fp_CustomValley_Rests_58 rfl rfl rfl ?_
  refine wp_aload_n dX4_find_25 rfl rfl ?_
  refine wp_getR dX4_find_26 fl_CustomValley_Rests_27 rfl rfl ?_
  refine wp_aload_n dX4_find_29 rfl rfl ?_
  refine wp_getI dX4_find_30 fl_CustomValley_Rests_61 rfl rfl rfl ?_
  rw [show (up (up (up (up σ 5 i 0 0) 5 i 11 0) 5 i 12 0) 5 i 13 0) 10 j 11 = σ 10 j 11 from by simp [up]]
  refine wp_iconst dX4_find_33 rfl ?_
  refine wp_invN (N := mX11_fillTo) [vR 32 i, vI (σ 10 j 11), vI 0] dX4_find_34 mn_CustomValley_Rests_66 mvX11_fillTo rfl rfl rfl (Nat.le_of_ble_eq_true rfl) (Nat.le_of_ble_eq_true rfl) (by decide) (by decide) ?_
  exact h
theorem b_X4_find_37 {i : Nat} {j : Nat} {σ : St} {Q : Res → St → Prop} (h : WP mX11_fillTo 0 [vR 27 i, vI (σ 10 j 11), vI (-1), vU] [] σ (CT mX4_find 49 [vR 5 i, vR 2 j, vR 10 j, vU, vU] [] Q)) : WP mX4_find 37 [vR 5 i, vR 2 j, vR 10 j, vU, vU] [] σ Q := by
  refine wp_aload_n dX4_find_37 rfl rfl ?_
  refine wp_getR dX4_find_38 fl_CustomValley_Rests_9 rfl rfl ?_
  refine wp_aload_n dX4_find_41 rfl rfl ?_
  refine wp_getI dX4_find_42 fl_CustomValley_Rests_61 rfl rfl rfl ?_
  refine wp_iconst dX4_find_45 rfl ?_
  refine wp_invN (N := mX11_fillTo) [vR 27 i, vI (σ 10 j 11), vI (-1)] dX4_find_46 mn_CustomValley_Rests_66 mvX11_fillTo rfl rfl rfl (Nat.le_of_ble_eq_true rfl) (Nat.le_of_ble_eq_true rfl) (by decide) (by decide) ?_
  exact h
theorem b_X4_find_49 {i : Nat} {j : Nat} {σ : St} {Q : Res → St → Prop} (h : WP mX11_fillTo 0 [vR 28 i, vI (σ 10 j 11), vI (-5), vU] [] σ (CT mX4_find 62 [vR 5 i, vR 2 j, vR 10 j, vU, vU] [] Q)) : WP mX4_find 49 [vR 5 i, vR 2 j, vR 10 j, vU, vU] [] σ Q := by
  refine wp_aload_n dX4_find_49 rfl rfl ?_
  refine wp_getR dX4_find_50 fl_CustomValley_Rests_15 rfl rfl ?_
  refine wp_aload_n dX4_find_53 rfl rfl ?_
  refine wp_getI dX4_find_54 fl_CustomValley_Rests_61 rfl rfl rfl ?_
  refine wp_bipush dX4_find_57 rfl ?_
  refine wp_invN (N := mX11_fillTo) [vR 28 i, vI (σ 10 j 11), vI (-5)] dX4_find_59 mn_CustomValley_Rests_66 mvX11_fillTo rfl rfl rfl (Nat.le_of_ble_eq_true rfl) (Nat.le_of_ble_eq_true rfl) (by decide) (by decide) ?_
  exact h
theorem b_X4_find_62 {i : Nat} {j : Nat} {σ : St} {Q : Res → St → Prop} (h : WP mX4_find 64 [vR 5 i, vR 2 j, vR 10 j, vI 0, vU] [] σ Q) : WP mX4_find 62 [vR 5 i, vR 2 j, vR 10 j, vU, vU] [] σ Q := by
  refine wp_iconst dX4_find_62 rfl ?_
  refine wp_istore_n dX4_find_63 rfl (by decide) rfl rfl ?_
  exact h
theorem b_X4_find_64 {i : Nat} {j : Nat} {x3 : Int} {σ : St} {Q : Res → St → Prop} (h : (((σ 10 j 12) ≤ x3) → (WP mX4_numberByLeast 0 [vR 5 i, vR 10 j, vU, vU, vU] [] σ (CT mX4_find 138 [vR 5 i, vU, vR 10 j, vU, vU] [] Q))) ∧ ((x3 < (σ 10 j 12)) → ((0 ≤ x3 ∧ x3 < 1024) ∧ ((0 ≤ σ 61 j x3.toNat ∧ (σ 61 j x3.toNat) < 1024) ∧ ((((σ 32 i ((σ 61 j x3.toNat).toNat)) = 0) → ((0 ≤ x3 ∧ x3 < 1024) ∧ (WP mX4_enter 0 [vR 5 i, vI (σ 61 j x3.toNat)] [] σ (CT mX4_find 99 [vR 5 i, vR 2 j, vR 10 j, vI x3, vU] [] Q)))) ∧ (((σ 32 i ((σ 61 j x3.toNat).toNat)) ≠ 0) → ((in32 (x3 + 1)) ∧ (WP mX4_find 64 [vR 5 i, vR 2 j, vR 10 j, vI (x3 + 1), vU] [] σ Q)))))))) : WP mX4_find 64 [vR 5 i, vR 2 j, vR 10 j, vI x3, vU] [] σ Q := by
  refine wp_iload_n dX4_find_64 rfl rfl ?_
  refine wp_aload_n dX4_find_65 rfl rfl ?_
  refine wp_getI dX4_find_66 fl_CustomValley_Rests_70 rfl rfl rfl ?_
  refine wp_icmp_ge (tgt := 133) dX4_find_69 (by decide) (fun hc => ?_) (fun hc => ?_)
  · replace h := h.1 hc
    refine wp_aload_n dX4_find_133 rfl rfl ?_
    refine wp_aload_n dX4_find_134 rfl rfl ?_
    refine wp_invV (N := mX4_numberByLeast) [vR 10 j] dX4_find_135 ml_CustomValley_Rests_85 mvX4_numberByLeast rfl rfl rfl rfl rfl (Nat.le_of_ble_eq_true rfl) (Nat.le_of_ble_eq_true rfl) (by decide) (by decide) (by decide) ?_
    exact WP.mono h (ct_drop (lle_c (Or.inl rfl) (lle_c (Or.inr rfl) (lle_c (Or.inl rfl) (lle_c (Or.inr rfl) (lle_c (Or.inl rfl) lle_n))))))
  · replace h := h.2 hc
    refine wp_aload_n dX4_find_72 rfl rfl ?_
    refine wp_getR dX4_find_73 fl_CustomValley_Rests_27 rfl rfl ?_
    refine wp_aload_n dX4_find_76 rfl rfl ?_
    refine wp_getR dX4_find_77 fl_CustomValley_Rests_73 rfl rfl ?_
    refine wp_iload_n dX4_find_80 rfl rfl ?_
    have s4 := h.1
    replace h := h.2
    refine wp_iaload dX4_find_81 rfl rfl s4.1 s4.2 ?_
    have s3 := h.1
    replace h := h.2
    refine wp_iaload dX4_find_82 rfl rfl s3.1 s3.2 ?_
    refine wp_if_eq (tgt := 89) dX4_find_83 (by decide) (fun hc => ?_) (fun hc => ?_)
    · replace h := h.1 hc
      refine wp_aload_n dX4_find_89 rfl rfl ?_
      refine wp_aload_n dX4_find_90 rfl rfl ?_
      refine wp_getR dX4_find_91 fl_CustomValley_Rests_73 rfl rfl ?_
      refine wp_iload_n dX4_find_94 rfl rfl ?_
      have s1 := h.1
      replace h := h.2
      refine wp_iaload dX4_find_95 rfl rfl s1.1 s1.2 ?_
      refine wp_invV (N := mX4_enter) [vI (σ 61 j x3.toNat)] dX4_find_96 ml_CustomValley_Rests_76 mvX4_enter rfl rfl rfl rfl rfl (Nat.le_of_ble_eq_true rfl) (Nat.le_of_ble_eq_true rfl) (by decide) (by decide) (by decide) ?_
      exact h
    · replace h := h.2 hc
      refine wp_goto (tgt := 127) dX4_find_86 (by decide) ?_
      have s2 := h.1
      replace h := h.2
      refine wp_iinc dX4_find_127 rfl (by decide) rfl rfl ?_ (h1 := s2.1) (h2 := s2.2)
      refine wp_goto (tgt := 64) dX4_find_130 (by decide) ?_
      exact h
theorem b_X4_find_99 {i : Nat} {j : Nat} {x3 : Int} {σ : St} {Q : Res → St → Prop} (h : WP mX4_find 102 [vR 5 i, vR 2 j, vR 10 j, vI x3, vI 0] [] σ Q) : WP mX4_find 99 [vR 5 i, vR 2 j, vR 10 j, vI x3, vU] [] σ Q := by
  refine wp_iconst dX4_find_99 rfl ?_
  refine wp_istore dX4_find_100 (by decide) rfl rfl ?_
  exact h
theorem b_X4_find_102 {i : Nat} {j : Nat} {x3 : Int} {x4 : Int} {σ : St} {Q : Res → St → Prop} (h : ((1000000 ≤ x4) → ((in32 (x3 + 1)) ∧ (WP mX4_find 64 [vR 5 i, vR 2 j, vR 10 j, vI (x3 + 1), vU] [] σ Q))) ∧ ((x4 < 1000000) → ((((σ 5 i 11) ≤ 0) → ((in32 (x3 + 1)) ∧ (WP mX4_find 64 [vR 5 i, vR 2 j, vR 10 j, vI (x3 + 1), vU] [] σ Q))) ∧ ((0 < (σ 5 i 11)) → (WP mX4_advance 0 [vR 5 i, vR 2 j, vU, vU] [] σ (CT mX4_find 121 [vR 5 i, vR 2 j, vR 10 j, vI x3, vI x4] [] Q)))))) : WP mX4_find 102 [vR 5 i, vR 2 j, vR 10 j, vI x3, vI x4] [] σ Q := by
  refine wp_iload dX4_find_102 rfl ?_
  refine wp_ldc (n := 1000000) dX4_find_104 ck_CustomValley_Rests_80 rfl ?_
  refine wp_icmp_ge (tgt := 127) dX4_find_106 (by decide) (fun hc => ?_) (fun hc => ?_)
  · replace h := h.1 hc
    have s1 := h.1
    replace h := h.2
    refine wp_iinc dX4_find_127 rfl (by decide) rfl rfl ?_ (h1 := s1.1) (h2 := s1.2)
    refine wp_goto (tgt := 64) dX4_find_130 (by decide) ?_
    exact wp_drop (als' := [vR 5 i, vR 2 j, vR 10 j, vI (x3 + 1), vU]) (lle_c (Or.inl rfl) (lle_c (Or.inl rfl) (lle_c (Or.inl rfl) (lle_c (Or.inl rfl) (lle_c (Or.inr rfl) lle_n))))) h
  · replace h := h.2 hc
    refine wp_aload_n dX4_find_109 rfl rfl ?_
    refine wp_getI dX4_find_110 fl_CustomValley_Rests_52 rfl rfl rfl ?_
    refine wp_if_le (tgt := 127) dX4_find_113 (by decide) (fun hc => ?_) (fun hc => ?_)
    · replace h := h.1 hc
      have s2 := h.1
      replace h := h.2
      refine wp_iinc dX4_find_127 rfl (by decide) rfl rfl ?_ (h1 := s2.1) (h2 := s2.2)
      refine wp_goto (tgt := 64) dX4_find_130 (by decide) ?_
      exact wp_drop (als' := [vR 5 i, vR 2 j, vR 10 j, vI (x3 + 1), vU]) (lle_c (Or.inl rfl) (lle_c (Or.inl rfl) (lle_c (Or.inl rfl) (lle_c (Or.inl rfl) (lle_c (Or.inr rfl) lle_n))))) h
    · replace h := h.2 hc
      refine wp_aload_n dX4_find_116 rfl rfl ?_
      refine wp_aload_n dX4_find_117 rfl rfl ?_
      refine wp_invV (N := mX4_advance) [vR 2 j] dX4_find_118 ml_CustomValley_Rests_81 mvX4_advance rfl rfl rfl rfl rfl (Nat.le_of_ble_eq_true rfl) (Nat.le_of_ble_eq_true rfl) (by decide) (by decide) (by decide) ?_
      exact h
theorem b_X4_find_121 {i : Nat} {j : Nat} {x3 : Int} {x4 : Int} {σ : St} {Q : Res → St → Prop} (h : (in32 (x4 + 1)) ∧ (WP mX4_find 102 [vR 5 i, vR 2 j, vR 10 j, vI x3, vI (x4 + 1)] [] σ Q)) : WP mX4_find 121 [vR 5 i, vR 2 j, vR 10 j, vI x3, vI x4] [] σ Q := by
  have s1 := h.1
  replace h := h.2
  refine wp_iinc dX4_find_121 rfl (by decide) rfl rfl ?_ (h1 := s1.1) (h2 := s1.2)
  refine wp_goto (tgt := 102) dX4_find_124 (by decide) ?_
  exact h
theorem b_X4_find_138 {i : Nat} {j : Nat} {σ : St} {Q : Res → St → Prop} (h : WP mX4_gather 0 [vR 5 i, vR 10 j, vU, vU] [] σ (CT mX4_find 143 [vU, vU, vU, vU, vU] [] Q)) : WP mX4_find 138 [vR 5 i, vU, vR 10 j, vU, vU] [] σ Q := by
  refine wp_aload_n dX4_find_138 rfl rfl ?_
  refine wp_aload_n dX4_find_139 rfl rfl ?_
  refine wp_invV (N := mX4_gather) [vR 10 j] dX4_find_140 ml_CustomValley_Rests_89 mvX4_gather rfl rfl rfl rfl rfl (Nat.le_of_ble_eq_true rfl) (Nat.le_of_ble_eq_true rfl) (by decide) (by decide) (by decide) ?_
  exact WP.mono h (ct_drop (lle_c (Or.inr rfl) (lle_c (Or.inl rfl) (lle_c (Or.inr rfl) (lle_c (Or.inl rfl) (lle_c (Or.inl rfl) lle_n))))))
theorem b_X4_find_143  {σ : St} {Q : Res → St → Prop} (h : Q (.inl none) σ) : WP mX4_find 143 [vU, vU, vU, vU, vU] [] σ Q := by
  exact wp_ret dX4_find_143 rfl h
theorem dX1_ready_0 : decode cX1_ready 0 = .ok (.aload_n 0, 1) := by decide +kernel
theorem dX1_ready_1 : decode cX1_ready 1 = .ok (.invokevirtual 50, 3) := by decide +kernel
theorem dX1_ready_4 : decode cX1_ready 4 = .ok (.pop, 1) := by decide +kernel
theorem dX1_ready_5 : decode cX1_ready 5 = .ok (.aload_n 0, 1) := by decide +kernel
theorem dX1_ready_6 : decode cX1_ready 6 = .ok (.getfield 40, 3) := by decide +kernel
theorem dX1_ready_9 : decode cX1_ready 9 = .ok (.ifCond .ne 16, 3) := by decide +kernel
theorem dX1_ready_12 : decode cX1_ready 12 = .ok (.aload_n 0, 1) := by decide +kernel
theorem dX1_ready_13 : decode cX1_ready 13 = .ok (.getfield 28, 3) := by decide +kernel
theorem dX1_ready_16 : decode cX1_ready 16 = .ok (.aload_n 0, 1) := by decide +kernel
theorem dX1_ready_17 : decode cX1_ready 17 = .ok (.invokevirtual 54, 3) := by decide +kernel
theorem dX1_ready_20 : decode cX1_ready 20 = .ok (.aload_n 0, 1) := by decide +kernel
theorem dX1_ready_21 : decode cX1_ready 21 = .ok (.iconst 1, 1) := by decide +kernel
theorem dX1_ready_22 : decode cX1_ready 22 = .ok (.putfield 40, 3) := by decide +kernel
theorem dX1_ready_25 : decode cX1_ready 25 = .ok (.return_, 1) := by decide +kernel
theorem b_X1_ready_0 {i : Nat} {σ : St} {Q : Res → St → Prop} (h : WP mX1_reply 0 [vR 2 i] [] σ (CT mX1_ready 4 [vR 2 i] [] Q)) : WP mX1_ready 0 [vR 2 i] [] σ Q := by
  refine wp_aload_n dX1_ready_0 rfl rfl ?_
  refine wp_invV (N := mX1_reply) [] dX1_ready_1 ml_CustomValley_Land_50 mvX1_reply rfl rfl rfl rfl rfl (Nat.le_of_ble_eq_true rfl) (Nat.le_of_ble_eq_true rfl) (by decide) (by decide) (by decide) ?_
  exact h
theorem b_X1_ready_4 {i : Nat} {t0 : Int} {σ : St} {Q : Res → St → Prop} (h : (((σ 2 i 5) ≠ 0) → (Q (.inl none) σ)) ∧ (((σ 2 i 5) = 0) → (WP mX4_find 0 [vR 5 i, vR 2 i, vU, vU, vU] [] σ (CT mX1_ready 20 [vR 2 i] [] Q)))) : WP mX1_ready 4 [vR 2 i] [vI t0] σ Q := by
  refine wp_pop dX1_ready_4 ?_
  refine wp_aload_n dX1_ready_5 rfl rfl ?_
  refine wp_getI dX1_ready_6 fl_CustomValley_Land_40 rfl rfl rfl ?_
  refine wp_if_ne (tgt := 25) dX1_ready_9 (by decide) (fun hc => ?_) (fun hc => ?_)
  · replace h := h.1 hc
    exact wp_ret dX1_ready_25 rfl h
  · replace h := h.2 hc
    refine wp_aload_n dX1_ready_12 rfl rfl ?_
    refine wp_getR dX1_ready_13 fl_CustomValley_Land_28 rfl rfl ?_
    refine wp_aload_n dX1_ready_16 rfl rfl ?_
    refine wp_invV (N := mX4_find) [vR 2 i] dX1_ready_17 ml_CustomValley_Land_54 mvX4_find rfl rfl rfl rfl rfl (Nat.le_of_ble_eq_true rfl) (Nat.le_of_ble_eq_true rfl) (by decide) (by decide) (by decide) ?_
    exact h
theorem b_X1_ready_20 {i : Nat} {σ : St} {Q : Res → St → Prop} (h : Q (.inl none) (up σ 2 i 5 1)) : WP mX1_ready 20 [vR 2 i] [] σ Q := by
  refine wp_aload_n dX1_ready_20 rfl rfl ?_
  refine wp_iconst dX1_ready_21 rfl ?_
  refine wp_putZ dX1_ready_22 fp_CustomValley_Land_40 rfl rfl rfl (by decide) ?_
  exact wp_ret dX1_ready_25 rfl h
