theorem dX8_edge_0 : decode cX8_edge 0 = .ok (.aload_n 0, 1) := by decide +kernel
theorem dX8_edge_1 : decode cX8_edge 1 = .ok (.getfield 18, 3) := by decide +kernel
theorem dX8_edge_4 : decode cX8_edge 4 = .ok (.iload_n 1, 1) := by decide +kernel
theorem dX8_edge_5 : decode cX8_edge 5 = .ok (.bipush 12, 2) := by decide +kernel
theorem dX8_edge_7 : decode cX8_edge 7 = .ok (.imul, 1) := by decide +kernel
theorem dX8_edge_8 : decode cX8_edge 8 = .ok (.iload_n 2, 1) := by decide +kernel
theorem dX8_edge_9 : decode cX8_edge 9 = .ok (.iadd, 1) := by decide +kernel
theorem dX8_edge_10 : decode cX8_edge 10 = .ok (.iaload, 1) := by decide +kernel
theorem dX8_edge_11 : decode cX8_edge 11 = .ok (.ireturn, 1) := by decide +kernel
theorem b_X8_edge_0 {x1 : Int} {x2 : Int} {σ : St} {Q : Res → St → Prop} (h : (in32 (x1 * 12)) ∧ ((in32 ((x1 * 12) + x2)) ∧ ((0 ≤ (x1 * 12) + x2 ∧ ((x1 * 12) + x2) < 144) ∧ (Q (.inl (some (vI (σ 49 0 (((x1 * 12) + x2).toNat))))) σ)))) : WP mX8_edge 0 [vR 9 0, vI x1, vI x2] [] σ Q := by
  refine wp_aload_n dX8_edge_0 rfl rfl ?_
  refine wp_getR dX8_edge_1 fl_CustomValley_Trees_18 rfl rfl ?_
  refine wp_iload_n dX8_edge_4 rfl rfl ?_
  refine wp_bipush dX8_edge_5 rfl ?_
  have s3 := h.1
  replace h := h.2
  refine wp_imul dX8_edge_7 ?_ (h1 := s3.1) (h2 := s3.2)
  refine wp_iload_n dX8_edge_8 rfl rfl ?_
  have s2 := h.1
  replace h := h.2
  refine wp_iadd dX8_edge_9 ?_ (h1 := s2.1) (h2 := s2.2)
  have s1 := h.1
  replace h := h.2
  refine wp_iaload dX8_edge_10 rfl rfl s1.1 s1.2 ?_
  exact wp_iret dX8_edge_11 rfl h
theorem pb_X8_edge {x1 : Int} {x2 : Int} {σ : St} {Q : Res → St → Prop} (hs : in32 (x1 * 12) ∧ in32 ((x1 * 12) + x2) ∧ 0 ≤ (x1 * 12) + x2 ∧ ((x1 * 12) + x2) < 144) (h : Q (.inl (some (vI (σ 49 0 (((x1 * 12) + x2).toNat))))) σ) : WP mX8_edge 0 [vR 9 0, vI x1, vI x2] [] σ Q := by
  obtain ⟨h0, h1, h2, h3⟩ := hs
  exact b_X8_edge_0 ⟨h0, h1, ⟨h2, h3⟩, h⟩
theorem dX8_goesOn_0 : decode cX8_goesOn 0 = .ok (.iload_n 1, 1) := by decide +kernel
theorem dX8_goesOn_1 : decode cX8_goesOn 1 = .ok (.ifCond .lt 20, 3) := by decide +kernel
theorem dX8_goesOn_4 : decode cX8_goesOn 4 = .ok (.iload_n 1, 1) := by decide +kernel
theorem dX8_goesOn_5 : decode cX8_goesOn 5 = .ok (.aload_n 0, 1) := by decide +kernel
theorem dX8_goesOn_6 : decode cX8_goesOn 6 = .ok (.getfield 33, 3) := by decide +kernel
theorem dX8_goesOn_9 : decode cX8_goesOn 9 = .ok (.if_icmp .ge 12, 3) := by decide +kernel
theorem dX8_goesOn_12 : decode cX8_goesOn 12 = .ok (.aload_n 0, 1) := by decide +kernel
theorem dX8_goesOn_13 : decode cX8_goesOn 13 = .ok (.getfield 9, 3) := by decide +kernel
theorem dX8_goesOn_16 : decode cX8_goesOn 16 = .ok (.iload_n 1, 1) := by decide +kernel
theorem dX8_goesOn_17 : decode cX8_goesOn 17 = .ok (.iaload, 1) := by decide +kernel
theorem dX8_goesOn_18 : decode cX8_goesOn 18 = .ok (.goto 4, 3) := by decide +kernel
theorem dX8_goesOn_21 : decode cX8_goesOn 21 = .ok (.iconst (-1), 1) := by decide +kernel
theorem dX8_goesOn_22 : decode cX8_goesOn 22 = .ok (.ireturn, 1) := by decide +kernel
theorem b_X8_goesOn_0 {x1 : Int} {σ : St} {Q : Res → St → Prop} (h : ((x1 < 0) → (Q (.inl (some (vI (-1)))) σ)) ∧ ((0 ≤ x1) → ((((σ 9 0 0) ≤ x1) → (Q (.inl (some (vI (-1)))) σ)) ∧ ((x1 < (σ 9 0 0)) → ((0 ≤ x1 ∧ x1 < 12) ∧ (Q (.inl (some (vI (σ 47 0 x1.toNat)))) σ)))))) : WP mX8_goesOn 0 [vR 9 0, vI x1] [] σ Q := by
  refine wp_iload_n dX8_goesOn_0 rfl rfl ?_
  refine wp_if_lt (tgt := 21) dX8_goesOn_1 (by decide) (fun hc => ?_) (fun hc => ?_)
  · replace h := h.1 hc
    refine wp_iconst dX8_goesOn_21 rfl ?_
    exact wp_iret dX8_goesOn_22 rfl h
  · replace h := h.2 hc
    refine wp_iload_n dX8_goesOn_4 rfl rfl ?_
    refine wp_aload_n dX8_goesOn_5 rfl rfl ?_
    refine wp_getI dX8_goesOn_6 fl_CustomValley_Trees_33 rfl rfl rfl ?_
    refine wp_icmp_ge (tgt := 21) dX8_goesOn_9 (by decide) (fun hc => ?_) (fun hc => ?_)
    · replace h := h.1 hc
      refine wp_iconst dX8_goesOn_21 rfl ?_
      exact wp_iret dX8_goesOn_22 rfl h
    · replace h := h.2 hc
      refine wp_aload_n dX8_goesOn_12 rfl rfl ?_
      refine wp_getR dX8_goesOn_13 fl_CustomValley_Trees_9 rfl rfl ?_
      refine wp_iload_n dX8_goesOn_16 rfl rfl ?_
      have s1 := h.1
      replace h := h.2
      refine wp_iaload dX8_goesOn_17 rfl rfl s1.1 s1.2 ?_
      refine wp_goto (tgt := 22) dX8_goesOn_18 (by decide) ?_
      exact wp_iret dX8_goesOn_22 rfl h
theorem pb_X8_goesOn {x1 : Int} {σ : St} {Q : Res → St → Prop} (hs : (σ 9 0 0) ≤ 12) (h : Q (.inl (some (vI (if 0 ≤ x1 ∧ x1 < (σ 9 0 0) then (σ 47 0 x1.toNat) else -1)))) σ) : WP mX8_goesOn 0 [vR 9 0, vI x1] [] σ Q := by
  refine b_X8_goesOn_0 ?_
  (repeat' (first | intro _ | apply And.intro)) <;> (first | (rw [if_pos (by omega)] at h; exact h) | (rw [if_neg (by omega)] at h; exact h) | omega)
theorem dX10_bitAt_0 : decode cX10_bitAt 0 = .ok (.iload_n 1, 1) := by decide +kernel
theorem dX10_bitAt_1 : decode cX10_bitAt 1 = .ok (.istore_n 2, 1) := by decide +kernel
theorem dX10_bitAt_2 : decode cX10_bitAt 2 = .ok (.iconst 0, 1) := by decide +kernel
theorem dX10_bitAt_3 : decode cX10_bitAt 3 = .ok (.istore_n 3, 1) := by decide +kernel
theorem dX10_bitAt_4 : decode cX10_bitAt 4 = .ok (.iload_n 3, 1) := by decide +kernel
theorem dX10_bitAt_5 : decode cX10_bitAt 5 = .ok (.bipush 10, 2) := by decide +kernel
theorem dX10_bitAt_7 : decode cX10_bitAt 7 = .ok (.if_icmp .ge 26, 3) := by decide +kernel
theorem dX10_bitAt_10 : decode cX10_bitAt 10 = .ok (.iload_n 0, 1) := by decide +kernel
theorem dX10_bitAt_11 : decode cX10_bitAt 11 = .ok (.iload_n 3, 1) := by decide +kernel
theorem dX10_bitAt_12 : decode cX10_bitAt 12 = .ok (.ishr, 1) := by decide +kernel
theorem dX10_bitAt_13 : decode cX10_bitAt 13 = .ok (.iconst 1, 1) := by decide +kernel
theorem dX10_bitAt_14 : decode cX10_bitAt 14 = .ok (.iand, 1) := by decide +kernel
theorem dX10_bitAt_15 : decode cX10_bitAt 15 = .ok (.ifCond .eq 12, 3) := by decide +kernel
theorem dX10_bitAt_18 : decode cX10_bitAt 18 = .ok (.iload_n 2, 1) := by decide +kernel
theorem dX10_bitAt_19 : decode cX10_bitAt 19 = .ok (.ifCond .ne 5, 3) := by decide +kernel
theorem dX10_bitAt_22 : decode cX10_bitAt 22 = .ok (.iload_n 3, 1) := by decide +kernel
theorem dX10_bitAt_23 : decode cX10_bitAt 23 = .ok (.ireturn, 1) := by decide +kernel
theorem dX10_bitAt_24 : decode cX10_bitAt 24 = .ok (.iinc 2 (-1), 3) := by decide +kernel
theorem dX10_bitAt_27 : decode cX10_bitAt 27 = .ok (.iinc 3 1, 3) := by decide +kernel
theorem dX10_bitAt_30 : decode cX10_bitAt 30 = .ok (.goto (-26), 3) := by decide +kernel
theorem dX10_bitAt_33 : decode cX10_bitAt 33 = .ok (.iconst 0, 1) := by decide +kernel
theorem dX10_bitAt_34 : decode cX10_bitAt 34 = .ok (.ireturn, 1) := by decide +kernel
theorem b_X10_bitAt_0 {x0 : Int} {x1 : Int} {σ : St} {Q : Res → St → Prop} (h : WP mX10_bitAt 4 [vI x0, vU, vI x1, vI 0] [] σ Q) : WP mX10_bitAt 0 [vI x0, vI x1, vU, vU] [] σ Q := by
  refine wp_iload_n dX10_bitAt_0 rfl rfl ?_
  refine wp_istore_n dX10_bitAt_1 rfl (by decide) rfl rfl ?_
  refine wp_iconst dX10_bitAt_2 rfl ?_
  refine wp_istore_n dX10_bitAt_3 rfl (by decide) rfl rfl ?_
  exact wp_drop (als' := [vI x0, vU, vI x1, vI 0]) (lle_c (Or.inl rfl) (lle_c (Or.inr rfl) (lle_c (Or.inl rfl) (lle_c (Or.inl rfl) lle_n)))) h
theorem b_X10_bitAt_4 {x0 : Int} {x2 : Int} {x3 : Int} {σ : St} {Q : Res → St → Prop} (h : ((10 ≤ x3) → (Q (.inl (some (vI 0))) σ)) ∧ ((x3 < 10) → ((((band (shr x0 x3) 1) = 0) → ((in32 (x3 + 1)) ∧ (WP mX10_bitAt 4 [vI x0, vU, vI x2, vI (x3 + 1)] [] σ Q))) ∧ (((band (shr x0 x3) 1) ≠ 0) → (((x2 ≠ 0) → ((in32 (x2 + (-1))) ∧ ((in32 (x3 + 1)) ∧ (WP mX10_bitAt 4 [vI x0, vU, vI (x2 + (-1)), vI (x3 + 1)] [] σ Q)))) ∧ ((x2 = 0) → (Q (.inl (some (vI x3))) σ))))))) : WP mX10_bitAt 4 [vI x0, vU, vI x2, vI x3] [] σ Q := by
  refine wp_iload_n dX10_bitAt_4 rfl rfl ?_
  refine wp_bipush dX10_bitAt_5 rfl ?_
  refine wp_icmp_ge (tgt := 33) dX10_bitAt_7 (by decide) (fun hc => ?_) (fun hc => ?_)
  · replace h := h.1 hc
    refine wp_iconst dX10_bitAt_33 rfl ?_
    exact wp_iret dX10_bitAt_34 rfl h
  · replace h := h.2 hc
    refine wp_iload_n dX10_bitAt_10 rfl rfl ?_
    refine wp_iload_n dX10_bitAt_11 rfl rfl ?_
    refine wp_ishr dX10_bitAt_12 ?_
    refine wp_iconst dX10_bitAt_13 rfl ?_
    refine wp_iand dX10_bitAt_14 ?_
    refine wp_if_eq (tgt := 27) dX10_bitAt_15 (by decide) (fun hc => ?_) (fun hc => ?_)
    · replace h := h.1 hc
      have s1 := h.1
      replace h := h.2
      refine wp_iinc dX10_bitAt_27 rfl (by decide) rfl rfl ?_ (h1 := s1.1) (h2 := s1.2)
      refine wp_goto (tgt := 4) dX10_bitAt_30 (by decide) ?_
      exact h
    · replace h := h.2 hc
      refine wp_iload_n dX10_bitAt_18 rfl rfl ?_
      refine wp_if_ne (tgt := 24) dX10_bitAt_19 (by decide) (fun hc => ?_) (fun hc => ?_)
      · replace h := h.1 hc
        have s3 := h.1
        replace h := h.2
        refine wp_iinc dX10_bitAt_24 rfl (by decide) rfl rfl ?_ (h1 := s3.1) (h2 := s3.2)
        have s2 := h.1
        replace h := h.2
        refine wp_iinc dX10_bitAt_27 rfl (by decide) rfl rfl ?_ (h1 := s2.1) (h2 := s2.2)
        refine wp_goto (tgt := 4) dX10_bitAt_30 (by decide) ?_
        exact h
      · replace h := h.2 hc
        refine wp_iload_n dX10_bitAt_22 rfl rfl ?_
        exact wp_iret dX10_bitAt_23 rfl h
theorem dX10_draw_0 : decode cX10_draw 0 = .ok (.aload_n 0, 1) := by decide +kernel
theorem dX10_draw_1 : decode cX10_draw 1 = .ok (.ldc2_w 74, 3) := by decide +kernel
theorem dX10_draw_4 : decode cX10_draw 4 = .ok (.aload_n 0, 1) := by decide +kernel
theorem dX10_draw_5 : decode cX10_draw 5 = .ok (.getfield 76, 3) := by decide +kernel
theorem dX10_draw_8 : decode cX10_draw 8 = .ok (.lmul, 1) := by decide +kernel
theorem dX10_draw_9 : decode cX10_draw 9 = .ok (.ldc2_w 80, 3) := by decide +kernel
theorem dX10_draw_12 : decode cX10_draw 12 = .ok (.ladd, 1) := by decide +kernel
theorem dX10_draw_13 : decode cX10_draw 13 = .ok (.ldc2_w 82, 3) := by decide +kernel
theorem dX10_draw_16 : decode cX10_draw 16 = .ok (.lrem, 1) := by decide +kernel
theorem dX10_draw_17 : decode cX10_draw 17 = .ok (.putfield 76, 3) := by decide +kernel
theorem dX10_draw_20 : decode cX10_draw 20 = .ok (.aload_n 0, 1) := by decide +kernel
theorem dX10_draw_21 : decode cX10_draw 21 = .ok (.getfield 76, 3) := by decide +kernel
theorem dX10_draw_24 : decode cX10_draw 24 = .ok (.ldc2_w 84, 3) := by decide +kernel
theorem dX10_draw_27 : decode cX10_draw 27 = .ok (.ldiv, 1) := by decide +kernel
theorem dX10_draw_28 : decode cX10_draw 28 = .ok (.l2i, 1) := by decide +kernel
theorem dX10_draw_29 : decode cX10_draw 29 = .ok (.ireturn, 1) := by decide +kernel
theorem b_X10_draw_0 {i : Nat} {σ : St} {Q : Res → St → Prop} (h : (in64 (1103515245 * (σ 11 i 7))) ∧ ((in64 ((1103515245 * (σ 11 i 7)) + 12345)) ∧ ((0 ≤ (1103515245 * (σ 11 i 7)) + 12345) ∧ ((0 ≤ ((1103515245 * (σ 11 i 7)) + 12345) % 2147483648) ∧ ((in32 ((((1103515245 * (σ 11 i 7)) + 12345) % 2147483648) / 65536)) ∧ (Q (.inl (some (vI ((((1103515245 * (σ 11 i 7)) + 12345) % 2147483648) / 65536)))) (up σ 11 i 7 (((1103515245 * (σ 11 i 7)) + 12345) % 2147483648)))))))) : WP mX10_draw 0 [vR 11 i] [] σ Q := by
  refine wp_aload_n dX10_draw_0 rfl rfl ?_
  refine wp_ldc2 (n := 1103515245) dX10_draw_1 cl_CustomValley_Walk_74 rfl ?_
  refine wp_aload_n dX10_draw_4 rfl rfl ?_
  refine wp_getL dX10_draw_5 fl_CustomValley_Walk_76 rfl rfl rfl ?_
  have s5 := h.1
  replace h := h.2
  refine wp_lmul dX10_draw_8 ?_ (h1 := s5.1) (h2 := s5.2)
  refine wp_ldc2 (n := 12345) dX10_draw_9 cl_CustomValley_Walk_80 rfl ?_
  have s4 := h.1
  replace h := h.2
  refine wp_ladd dX10_draw_12 ?_ (h1 := s4.1) (h2 := s4.2)
  refine wp_ldc2 (n := 2147483648) dX10_draw_13 cl_CustomValley_Walk_82 rfl ?_
  have s3 := h.1
  replace h := h.2
  refine wp_lrem dX10_draw_16 ?_ (h1 := s3) (h2 := by decide)
  refine wp_putL dX10_draw_17 fp_CustomValley_Walk_76 rfl rfl rfl ?_
  refine wp_aload_n dX10_draw_20 rfl rfl ?_
  refine wp_getL dX10_draw_21 fl_CustomValley_Walk_76 rfl rfl rfl ?_
  rw [show (up σ 11 i 7 (((1103515245 * (σ 11 i 7)) + 12345) % 2147483648)) 11 i 7 = ((1103515245 * (σ 11 i 7)) + 12345) % 2147483648 from by simp [up]]
  refine wp_ldc2 (n := 65536) dX10_draw_24 cl_CustomValley_Walk_84 rfl ?_
  have s2 := h.1
  replace h := h.2
  refine wp_ldiv dX10_draw_27 ?_ (h1 := s2) (h2 := by decide)
  have s1 := h.1
  replace h := h.2
  refine wp_l2i dX10_draw_28 ?_ (h1 := s1.1) (h2 := s1.2)
  exact wp_iret dX10_draw_29 rfl h
theorem dX8_nameOthers_0 : decode cX8_nameOthers 0 = .ok (.iload_n 2, 1) := by decide +kernel
theorem dX8_nameOthers_1 : decode cX8_nameOthers 1 = .ok (.istore_n 3, 1) := by decide +kernel
theorem dX8_nameOthers_2 : decode cX8_nameOthers 2 = .ok (.iconst 0, 1) := by decide +kernel
theorem dX8_nameOthers_3 : decode cX8_nameOthers 3 = .ok (.istore 4, 2) := by decide +kernel
theorem dX8_nameOthers_5 : decode cX8_nameOthers 5 = .ok (.iload 4, 2) := by decide +kernel
theorem dX8_nameOthers_7 : decode cX8_nameOthers 7 = .ok (.iload_n 1, 1) := by decide +kernel
theorem dX8_nameOthers_8 : decode cX8_nameOthers 8 = .ok (.if_icmp .ge 31, 3) := by decide +kernel
theorem dX8_nameOthers_11 : decode cX8_nameOthers 11 = .ok (.aload_n 0, 1) := by decide +kernel
theorem dX8_nameOthers_12 : decode cX8_nameOthers 12 = .ok (.getfield 30, 3) := by decide +kernel
theorem dX8_nameOthers_15 : decode cX8_nameOthers 15 = .ok (.iload 4, 2) := by decide +kernel
theorem dX8_nameOthers_17 : decode cX8_nameOthers 17 = .ok (.iaload, 1) := by decide +kernel
theorem dX8_nameOthers_18 : decode cX8_nameOthers 18 = .ok (.iconst (-1), 1) := by decide +kernel
theorem dX8_nameOthers_19 : decode cX8_nameOthers 19 = .ok (.if_icmp .ne 14, 3) := by decide +kernel
theorem dX8_nameOthers_22 : decode cX8_nameOthers 22 = .ok (.aload_n 0, 1) := by decide +kernel
theorem dX8_nameOthers_23 : decode cX8_nameOthers 23 = .ok (.getfield 30, 3) := by decide +kernel
theorem dX8_nameOthers_26 : decode cX8_nameOthers 26 = .ok (.iload 4, 2) := by decide +kernel
theorem dX8_nameOthers_28 : decode cX8_nameOthers 28 = .ok (.iload_n 3, 1) := by decide +kernel
theorem dX8_nameOthers_29 : decode cX8_nameOthers 29 = .ok (.iastore, 1) := by decide +kernel
theorem dX8_nameOthers_30 : decode cX8_nameOthers 30 = .ok (.iinc 3 1, 3) := by decide +kernel
theorem dX8_nameOthers_33 : decode cX8_nameOthers 33 = .ok (.iinc 4 1, 3) := by decide +kernel
theorem dX8_nameOthers_36 : decode cX8_nameOthers 36 = .ok (.goto (-31), 3) := by decide +kernel
theorem dX8_nameOthers_39 : decode cX8_nameOthers 39 = .ok (.iload_n 3, 1) := by decide +kernel
theorem dX8_nameOthers_40 : decode cX8_nameOthers 40 = .ok (.ireturn, 1) := by decide +kernel
theorem b_X8_nameOthers_0 {x1 : Int} {x2 : Int} {σ : St} {Q : Res → St → Prop} (h : WP mX8_nameOthers 5 [vR 9 0, vI x1, vU, vI x2, vI 0] [] σ Q) : WP mX8_nameOthers 0 [vR 9 0, vI x1, vI x2, vU, vU] [] σ Q := by
  refine wp_iload_n dX8_nameOthers_0 rfl rfl ?_
  refine wp_istore_n dX8_nameOthers_1 rfl (by decide) rfl rfl ?_
  refine wp_iconst dX8_nameOthers_2 rfl ?_
  refine wp_istore dX8_nameOthers_3 (by decide) rfl rfl ?_
  exact wp_drop (als' := [vR 9 0, vI x1, vU, vI x2, vI 0]) (lle_c (Or.inl rfl) (lle_c (Or.inl rfl) (lle_c (Or.inr rfl) (lle_c (Or.inl rfl) (lle_c (Or.inl rfl) lle_n))))) h
theorem b_X8_nameOthers_5 {x1 : Int} {x3 : Int} {x4 : Int} {σ : St} {Q : Res → St → Prop} (h : ((x1 ≤ x4) → (Q (.inl (some (vI x3))) σ)) ∧ ((x4 < x1) → ((0 ≤ x4 ∧ x4 < 12) ∧ ((((σ 53 0 x4.toNat) ≠ (-1)) → ((in32 (x4 + 1)) ∧ (WP mX8_nameOthers 5 [vR 9 0, vI x1, vU, vI x3, vI (x4 + 1)] [] σ Q))) ∧ (((σ 53 0 x4.toNat) = (-1)) → ((0 ≤ x4 ∧ x4 < 12) ∧ ((in32 (x3 + 1)) ∧ ((in32 (x4 + 1)) ∧ (WP mX8_nameOthers 5 [vR 9 0, vI x1, vU, vI (x3 + 1), vI (x4 + 1)] [] (up σ 53 0 x4.toNat x3) Q))))))))) : WP mX8_nameOthers 5 [vR 9 0, vI x1, vU, vI x3, vI x4] [] σ Q := by
  refine wp_iload dX8_nameOthers_5 rfl ?_
  refine wp_iload_n dX8_nameOthers_7 rfl rfl ?_
  refine wp_icmp_ge (tgt := 39) dX8_nameOthers_8 (by decide) (fun hc => ?_) (fun hc => ?_)
  · replace h := h.1 hc
    refine wp_iload_n dX8_nameOthers_39 rfl rfl ?_
    exact wp_iret dX8_nameOthers_40 rfl h
  · replace h := h.2 hc
    refine wp_aload_n dX8_nameOthers_11 rfl rfl ?_
    refine wp_getR dX8_nameOthers_12 fl_CustomValley_Trees_30 rfl rfl ?_
    refine wp_iload dX8_nameOthers_15 rfl ?_
    have s5 := h.1
    replace h := h.2
    refine wp_iaload dX8_nameOthers_17 rfl rfl s5.1 s5.2 ?_
    refine wp_iconst dX8_nameOthers_18 rfl ?_
    refine wp_icmp_ne (tgt := 33) dX8_nameOthers_19 (by decide) (fun hc => ?_) (fun hc => ?_)
    · replace h := h.1 hc
      have s1 := h.1
      replace h := h.2
      refine wp_iinc dX8_nameOthers_33 rfl (by decide) rfl rfl ?_ (h1 := s1.1) (h2 := s1.2)
      refine wp_goto (tgt := 5) dX8_nameOthers_36 (by decide) ?_
      exact h
    · replace h := h.2 hc
      refine wp_aload_n dX8_nameOthers_22 rfl rfl ?_
      refine wp_getR dX8_nameOthers_23 fl_CustomValley_Trees_30 rfl rfl ?_
      refine wp_iload dX8_nameOthers_26 rfl ?_
      refine wp_iload_n dX8_nameOthers_28 rfl rfl ?_
      have s4 := h.1
      replace h := h.2
      refine wp_iastore dX8_nameOthers_29 rfl rfl s4.1 s4.2 ?_
      have s3 := h.1
      replace h := h.2
      refine wp_iinc dX8_nameOthers_30 rfl (by decide) rfl rfl ?_ (h1 := s3.1) (h2 := s3.2)
      have s2 := h.1
      replace h := h.2
      refine wp_iinc dX8_nameOthers_33 rfl (by decide) rfl rfl ?_ (h1 := s2.1) (h2 := s2.2)
      refine wp_goto (tgt := 5) dX8_nameOthers_36 (by decide) ?_
      exact h
theorem dX0_spread_0 : decode cX0_spread 0 = .ok (.aload_n 1, 1) := by decide +kernel
theorem dX0_spread_1 : decode cX0_spread 1 = .ok (.getfield 29, 3) := by decide +kernel
theorem dX0_spread_4 : decode cX0_spread 4 = .ok (.astore 4, 2) := by decide +kernel
theorem dX0_spread_6 : decode cX0_spread 6 = .ok (.aload_n 0, 1) := by decide +kernel
theorem dX0_spread_7 : decode cX0_spread 7 = .ok (.getfield 9, 3) := by decide +kernel
theorem dX0_spread_10 : decode cX0_spread 10 = .ok (.iload_n 2, 1) := by decide +kernel
theorem dX0_spread_11 : decode cX0_spread 11 = .ok (.iaload, 1) := by decide +kernel
theorem dX0_spread_12 : decode cX0_spread 12 = .ok (.iconst 1, 1) := by decide +kernel
theorem dX0_spread_13 : decode cX0_spread 13 = .ok (.aload 4, 2) := by decide +kernel
theorem dX0_spread_15 : decode cX0_spread 15 = .ok (.getfield 35, 3) := by decide +kernel
theorem dX0_spread_18 : decode cX0_spread 18 = .ok (.invokestatic 62, 3) := by decide +kernel
theorem dX0_spread_21 : decode cX0_spread 21 = .ok (.idiv, 1) := by decide +kernel
theorem dX0_spread_22 : decode cX0_spread 22 = .ok (.istore 5, 2) := by decide +kernel
theorem dX0_spread_24 : decode cX0_spread 24 = .ok (.iload 5, 2) := by decide +kernel
theorem dX0_spread_26 : decode cX0_spread 26 = .ok (.iconst 1, 1) := by decide +kernel
theorem dX0_spread_27 : decode cX0_spread 27 = .ok (.iload_n 3, 1) := by decide +kernel
theorem dX0_spread_28 : decode cX0_spread 28 = .ok (.invokestatic 62, 3) := by decide +kernel
theorem dX0_spread_31 : decode cX0_spread 31 = .ok (.idiv, 1) := by decide +kernel
theorem dX0_spread_32 : decode cX0_spread 32 = .ok (.istore 6, 2) := by decide +kernel
theorem dX0_spread_34 : decode cX0_spread 34 = .ok (.iload 6, 2) := by decide +kernel
theorem dX0_spread_36 : decode cX0_spread 36 = .ok (.aload 4, 2) := by decide +kernel
theorem dX0_spread_38 : decode cX0_spread 38 = .ok (.getfield 68, 3) := by decide +kernel
theorem dX0_spread_41 : decode cX0_spread 41 = .ok (.idiv, 1) := by decide +kernel
theorem dX0_spread_42 : decode cX0_spread 42 = .ok (.istore 7, 2) := by decide +kernel
theorem dX0_spread_44 : decode cX0_spread 44 = .ok (.aload_n 0, 1) := by decide +kernel
theorem dX0_spread_45 : decode cX0_spread 45 = .ok (.getfield 9, 3) := by decide +kernel
theorem dX0_spread_48 : decode cX0_spread 48 = .ok (.iload_n 2, 1) := by decide +kernel
theorem dX0_spread_49 : decode cX0_spread 49 = .ok (.iaload, 1) := by decide +kernel
theorem dX0_spread_50 : decode cX0_spread 50 = .ok (.istore 8, 2) := by decide +kernel
theorem dX0_spread_52 : decode cX0_spread 52 = .ok (.iconst 0, 1) := by decide +kernel
theorem dX0_spread_53 : decode cX0_spread 53 = .ok (.istore 9, 2) := by decide +kernel
theorem dX0_spread_55 : decode cX0_spread 55 = .ok (.iload 9, 2) := by decide +kernel
theorem dX0_spread_57 : decode cX0_spread 57 = .ok (.aload 4, 2) := by decide +kernel
theorem dX0_spread_59 : decode cX0_spread 59 = .ok (.getfield 71, 3) := by decide +kernel
theorem dX0_spread_62 : decode cX0_spread 62 = .ok (.if_icmp .ge 144, 3) := by decide +kernel
theorem dX0_spread_65 : decode cX0_spread 65 = .ok (.aload 4, 2) := by decide +kernel
theorem dX0_spread_67 : decode cX0_spread 67 = .ok (.iload 9, 2) := by decide +kernel
theorem dX0_spread_69 : decode cX0_spread 69 = .ok (.invokevirtual 74, 3) := by decide +kernel
theorem dX0_spread_72 : decode cX0_spread 72 = .ok (.ifCond .ne 6, 3) := by decide +kernel
theorem dX0_spread_75 : decode cX0_spread 75 = .ok (.goto 125, 3) := by decide +kernel
theorem dX0_spread_78 : decode cX0_spread 78 = .ok (.aload_n 1, 1) := by decide +kernel
theorem dX0_spread_79 : decode cX0_spread 79 = .ok (.getfield 78, 3) := by decide +kernel
theorem dX0_spread_82 : decode cX0_spread 82 = .ok (.iload_n 2, 1) := by decide +kernel
theorem dX0_spread_83 : decode cX0_spread 83 = .ok (.iload 9, 2) := by decide +kernel
theorem dX0_spread_85 : decode cX0_spread 85 = .ok (.invokevirtual 82, 3) := by decide +kernel
theorem dX0_spread_88 : decode cX0_spread 88 = .ok (.istore 10, 2) := by decide +kernel
theorem dX0_spread_90 : decode cX0_spread 90 = .ok (.aload_n 1, 1) := by decide +kernel
theorem dX0_spread_91 : decode cX0_spread 91 = .ok (.getfield 78, 3) := by decide +kernel
theorem dX0_spread_94 : decode cX0_spread 94 = .ok (.iload_n 2, 1) := by decide +kernel
theorem dX0_spread_95 : decode cX0_spread 95 = .ok (.iload 9, 2) := by decide +kernel
theorem dX0_spread_97 : decode cX0_spread 97 = .ok (.invokevirtual 87, 3) := by decide +kernel
theorem dX0_spread_100 : decode cX0_spread 100 = .ok (.istore 11, 2) := by decide +kernel
theorem dX0_spread_102 : decode cX0_spread 102 = .ok (.iload 5, 2) := by decide +kernel
theorem dX0_spread_104 : decode cX0_spread 104 = .ok (.iload 6, 2) := by decide +kernel
theorem dX0_spread_106 : decode cX0_spread 106 = .ok (.isub, 1) := by decide +kernel
theorem dX0_spread_107 : decode cX0_spread 107 = .ok (.iconst 1, 1) := by decide +kernel
theorem dX0_spread_108 : decode cX0_spread 108 = .ok (.iload 10, 2) := by decide +kernel
theorem dX0_spread_110 : decode cX0_spread 110 = .ok (.invokestatic 90, 3) := by decide +kernel
theorem dX0_spread_113 : decode cX0_spread 113 = .ok (.invokestatic 62, 3) := by decide +kernel
theorem dX0_spread_116 : decode cX0_spread 116 = .ok (.idiv, 1) := by decide +kernel
theorem dX0_spread_117 : decode cX0_spread 117 = .ok (.istore 12, 2) := by decide +kernel
theorem dX0_spread_119 : decode cX0_spread 119 = .ok (.iconst 0, 1) := by decide +kernel
theorem dX0_spread_120 : decode cX0_spread 120 = .ok (.istore 13, 2) := by decide +kernel
theorem dX0_spread_122 : decode cX0_spread 122 = .ok (.iload 13, 2) := by decide +kernel
theorem dX0_spread_124 : decode cX0_spread 124 = .ok (.aload 4, 2) := by decide +kernel
theorem dX0_spread_126 : decode cX0_spread 126 = .ok (.getfield 68, 3) := by decide +kernel
theorem dX0_spread_129 : decode cX0_spread 129 = .ok (.if_icmp .ge 71, 3) := by decide +kernel
theorem dX0_spread_132 : decode cX0_spread 132 = .ok (.iload 13, 2) := by decide +kernel
theorem dX0_spread_134 : decode cX0_spread 134 = .ok (.iload 11, 2) := by decide +kernel
theorem dX0_spread_136 : decode cX0_spread 136 = .ok (.if_icmp .eq 58, 3) := by decide +kernel
theorem dX0_spread_139 : decode cX0_spread 139 = .ok (.iload 10, 2) := by decide +kernel
theorem dX0_spread_141 : decode cX0_spread 141 = .ok (.iload 13, 2) := by decide +kernel
theorem dX0_spread_143 : decode cX0_spread 143 = .ok (.ishr, 1) := by decide +kernel
theorem dX0_spread_144 : decode cX0_spread 144 = .ok (.iconst 1, 1) := by decide +kernel
theorem dX0_spread_145 : decode cX0_spread 145 = .ok (.iand, 1) := by decide +kernel
theorem dX0_spread_146 : decode cX0_spread 146 = .ok (.ifCond .eq 11, 3) := by decide +kernel
theorem dX0_spread_149 : decode cX0_spread 149 = .ok (.iload 7, 2) := by decide +kernel
theorem dX0_spread_151 : decode cX0_spread 151 = .ok (.iload 12, 2) := by decide +kernel
theorem dX0_spread_153 : decode cX0_spread 153 = .ok (.iadd, 1) := by decide +kernel
theorem dX0_spread_154 : decode cX0_spread 154 = .ok (.goto 5, 3) := by decide +kernel
theorem dX0_spread_157 : decode cX0_spread 157 = .ok (.iload 7, 2) := by decide +kernel
theorem dX0_spread_159 : decode cX0_spread 159 = .ok (.istore 14, 2) := by decide +kernel
theorem dX0_spread_161 : decode cX0_spread 161 = .ok (.aload_n 0, 1) := by decide +kernel
theorem dX0_spread_162 : decode cX0_spread 162 = .ok (.getfield 15, 3) := by decide +kernel
theorem dX0_spread_165 : decode cX0_spread 165 = .ok (.iload_n 2, 1) := by decide +kernel
theorem dX0_spread_166 : decode cX0_spread 166 = .ok (.iload 13, 2) := by decide +kernel
theorem dX0_spread_168 : decode cX0_spread 168 = .ok (.iload 11, 2) := by decide +kernel
theorem dX0_spread_170 : decode cX0_spread 170 = .ok (.isub, 1) := by decide +kernel
theorem dX0_spread_171 : decode cX0_spread 171 = .ok (.aload 4, 2) := by decide +kernel
theorem dX0_spread_173 : decode cX0_spread 173 = .ok (.getfield 96, 3) := by decide +kernel
theorem dX0_spread_176 : decode cX0_spread 176 = .ok (.iload 9, 2) := by decide +kernel
theorem dX0_spread_178 : decode cX0_spread 178 = .ok (.iaload, 1) := by decide +kernel
theorem dX0_spread_179 : decode cX0_spread 179 = .ok (.imul, 1) := by decide +kernel
theorem dX0_spread_180 : decode cX0_spread 180 = .ok (.iadd, 1) := by decide +kernel
theorem dX0_spread_181 : decode cX0_spread 181 = .ok (.dup2, 1) := by decide +kernel
theorem dX0_spread_182 : decode cX0_spread 182 = .ok (.iaload, 1) := by decide +kernel
theorem dX0_spread_183 : decode cX0_spread 183 = .ok (.iload 14, 2) := by decide +kernel
theorem dX0_spread_185 : decode cX0_spread 185 = .ok (.iadd, 1) := by decide +kernel
theorem dX0_spread_186 : decode cX0_spread 186 = .ok (.iastore, 1) := by decide +kernel
theorem dX0_spread_187 : decode cX0_spread 187 = .ok (.iload 8, 2) := by decide +kernel
theorem dX0_spread_189 : decode cX0_spread 189 = .ok (.iload 14, 2) := by decide +kernel
theorem dX0_spread_191 : decode cX0_spread 191 = .ok (.isub, 1) := by decide +kernel
theorem dX0_spread_192 : decode cX0_spread 192 = .ok (.istore 8, 2) := by decide +kernel
theorem dX0_spread_194 : decode cX0_spread 194 = .ok (.iinc 13 1, 3) := by decide +kernel
theorem dX0_spread_197 : decode cX0_spread 197 = .ok (.goto (-75), 3) := by decide +kernel
theorem dX0_spread_200 : decode cX0_spread 200 = .ok (.iinc 9 1, 3) := by decide +kernel
theorem dX0_spread_203 : decode cX0_spread 203 = .ok (.goto (-148), 3) := by decide +kernel
theorem dX0_spread_206 : decode cX0_spread 206 = .ok (.aload_n 0, 1) := by decide +kernel
theorem dX0_spread_207 : decode cX0_spread 207 = .ok (.getfield 15, 3) := by decide +kernel
theorem dX0_spread_210 : decode cX0_spread 210 = .ok (.iload_n 2, 1) := by decide +kernel
theorem dX0_spread_211 : decode cX0_spread 211 = .ok (.dup2, 1) := by decide +kernel
theorem dX0_spread_212 : decode cX0_spread 212 = .ok (.iaload, 1) := by decide +kernel
theorem dX0_spread_213 : decode cX0_spread 213 = .ok (.iload 8, 2) := by decide +kernel
theorem dX0_spread_215 : decode cX0_spread 215 = .ok (.iadd, 1) := by decide +kernel
theorem dX0_spread_216 : decode cX0_spread 216 = .ok (.iastore, 1) := by decide +kernel
theorem dX0_spread_217 : decode cX0_spread 217 = .ok (.return_, 1) := by decide +kernel
theorem b_X0_spread_0 {j : Nat} {x2 : Int} {x3 : Int} {σ : St} {Q : Res → St → Prop} (h : (0 ≤ x2 ∧ x2 < 1024) ∧ ((0 ≤ σ 20 0 x2.toNat ∧ 0 < max 1 (σ 10 j 10)) ∧ ((0 ≤ (σ 20 0 x2.toNat) / (max 1 (σ 10 j 10)) ∧ 0 < max 1 x3) ∧ ((0 ≤ ((σ 20 0 x2.toNat) / (max 1 (σ 10 j 10))) / (max 1 x3) ∧ 0 < σ 10 j 1) ∧ ((0 ≤ x2 ∧ x2 < 1024) ∧ (WP mX0_spread 55 [vR 1 0, vR 2 j, vI x2, vU, vR 10 j, vI ((σ 20 0 x2.toNat) / (max 1 (σ 10 j 10))), vI (((σ 20 0 x2.toNat) / (max 1 (σ 10 j 10))) / (max 1 x3)), vI ((((σ 20 0 x2.toNat) / (max 1 (σ 10 j 10))) / (max 1 x3)) / (σ 10 j 1)), vI (σ 20 0 x2.toNat), vI 0, vU, vU, vU, vU, vU] [] σ Q)))))) : WP mX0_spread 0 [vR 1 0, vR 2 j, vI x2, vI x3, vU, vU, vU, vU, vU, vU, vU, vU, vU, vU, vU] [] σ Q := by
  refine wp_aload_n dX0_spread_0 rfl rfl ?_
  refine wp_getR dX0_spread_1 fl_CustomValley_Flow_29 rfl rfl ?_
  refine wp_astore dX0_spread_4 (by decide) rfl rfl ?_
  refine wp_aload_n dX0_spread_6 rfl rfl ?_
  refine wp_getR dX0_spread_7 fl_CustomValley_Flow_9 rfl rfl ?_
  refine wp_iload_n dX0_spread_10 rfl rfl ?_
  have s5 := h.1
  replace h := h.2
  refine wp_iaload dX0_spread_11 rfl rfl s5.1 s5.2 ?_
  refine wp_iconst dX0_spread_12 rfl ?_
  refine wp_aload dX0_spread_13 rfl ?_
  refine wp_getI dX0_spread_15 fl_CustomValley_Flow_35 rfl rfl rfl ?_
  refine wp_mmax dX0_spread_18 mm_CustomValley_Flow_62 (by decide) (Nat.le_of_ble_eq_true rfl) ?_
  have s4 := h.1
  replace h := h.2
  refine wp_idiv dX0_spread_21 ?_ (h1 := s4.1) (h2 := s4.2)
  refine wp_istore dX0_spread_22 (by decide) rfl rfl ?_
  refine wp_iload dX0_spread_24 rfl ?_
  refine wp_iconst dX0_spread_26 rfl ?_
  refine wp_iload_n dX0_spread_27 rfl rfl ?_
  refine wp_mmax dX0_spread_28 mm_CustomValley_Flow_62 (by decide) (Nat.le_of_ble_eq_true rfl) ?_
  have s3 := h.1
  replace h := h.2
  refine wp_idiv dX0_spread_31 ?_ (h1 := s3.1) (h2 := s3.2)
  refine wp_istore dX0_spread_32 (by decide) rfl rfl ?_
  refine wp_iload dX0_spread_34 rfl ?_
  refine wp_aload dX0_spread_36 rfl ?_
  refine wp_getI dX0_spread_38 fl_CustomValley_Flow_68 rfl rfl rfl ?_
  have s2 := h.1
  replace h := h.2
  refine wp_idiv dX0_spread_41 ?_ (h1 := s2.1) (h2 := s2.2)
  refine wp_istore dX0_spread_42 (by decide) rfl rfl ?_
  refine wp_aload_n dX0_spread_44 rfl rfl ?_
  refine wp_getR dX0_spread_45 fl_CustomValley_Flow_9 rfl rfl ?_
  refine wp_iload_n dX0_spread_48 rfl rfl ?_
  have s1 := h.1
  replace h := h.2
  refine wp_iaload dX0_spread_49 rfl rfl s1.1 s1.2 ?_
  refine wp_istore dX0_spread_50 (by decide) rfl rfl ?_
  refine wp_iconst dX0_spread_52 rfl ?_
  refine wp_istore dX0_spread_53 (by decide) rfl rfl ?_
  exact wp_drop (als' := [vR 1 0, vR 2 j, vI x2, vU, vR 10 j, vI ((σ 20 0 x2.toNat) / (max 1 (σ 10 j 10))), vI (((σ 20 0 x2.toNat) / (max 1 (σ 10 j 10))) / (max 1 x3)), vI ((((σ 20 0 x2.toNat) / (max 1 (σ 10 j 10))) / (max 1 x3)) / (σ 10 j 1)), vI (σ 20 0 x2.toNat), vI 0, vU, vU, vU, vU, vU]) (lle_c (Or.inl rfl) (lle_c (Or.inl rfl) (lle_c (Or.inl rfl) (lle_c (Or.inr rfl) (lle_c (Or.inl rfl) (lle_c (Or.inl rfl) (lle_c (Or.inl rfl) (lle_c (Or.inl rfl) (lle_c (Or.inl rfl) (lle_c (Or.inl rfl) (lle_c (Or.inl rfl) (lle_c (Or.inl rfl) (lle_c (Or.inl rfl) (lle_c (Or.inl rfl) (lle_c (Or.inl rfl) lle_n))))))))))))))) h
theorem b_X0_spread_55 {j : Nat} {x2 : Int} {x5 : Int} {x6 : Int} {x7 : Int} {x8 : Int} {x9 : Int} {σ : St} {Q : Res → St → Prop} (h : (((σ 10 j 0) ≤ x9) → ((0 ≤ x2 ∧ x2 < 1024) ∧ ((0 ≤ x2 ∧ x2 < 1024) ∧ (Q (.inl none) (up σ 21 0 x2.toNat (w32 ((σ 21 0 x2.toNat) + x8))))))) ∧ ((x9 < (σ 10 j 0)) → (((band (shr (σ 10 j 9) x9) 1 ≠ 0) → ((in32 (x2 * 10) ∧ in32 ((x2 * 10) + x9) ∧ 0 ≤ (x2 * 10) + x9 ∧ ((x2 * 10) + x9) < 10240) ∧ ((in32 (x2 * 10) ∧ in32 ((x2 * 10) + x9) ∧ 0 ≤ (x2 * 10) + x9 ∧ ((x2 * 10) + x9) < 10240) ∧ ((0 ≤ (band (σ 23 j (((x2 * 10) + x9).toNat)) 15) ∧ ((band (σ 23 j (((x2 * 10) + x9).toNat)) 15)) < 1024) ∧ ((0 ≤ w32 (x5 - x6) ∧ 0 < max 1 (bcnt ((band (σ 23 j (((x2 * 10) + x9).toNat)) 15)))) ∧ (WP mX0_spread 122 [vR 1 0, vR 2 j, vI x2, vU, vR 10 j, vI x5, vI x6, vI x7, vI x8, vI x9, vI (band (σ 23 j (((x2 * 10) + x9).toNat)) 15), vI (shr (σ 23 j (((x2 * 10) + x9).toNat)) 4), vI ((w32 (x5 - x6)) / (max 1 (bcnt ((band (σ 23 j (((x2 * 10) + x9).toNat)) 15))))), vI 0, vU] [] σ Q)))))) ∧ ((¬ (band (shr (σ 10 j 9) x9) 1 ≠ 0)) → ((in32 (x9 + 1)) ∧ (WP mX0_spread 55 [vR 1 0, vR 2 j, vI x2, vU, vR 10 j, vI x5, vI x6, vI x7, vI x8, vI (x9 + 1), vU, vU, vU, vU, vU] [] σ Q)))))) : WP mX0_spread 55 [vR 1 0, vR 2 j, vI x2, vU, vR 10 j, vI x5, vI x6, vI x7, vI x8, vI x9, vU, vU, vU, vU, vU] [] σ Q := by
  refine wp_iload dX0_spread_55 rfl ?_
  refine wp_aload dX0_spread_57 rfl ?_
  refine wp_getI dX0_spread_59 fl_CustomValley_Flow_71 rfl rfl rfl ?_
  refine wp_icmp_ge (tgt := 206) dX0_spread_62 (by decide) (fun hc => ?_) (fun hc => ?_)
  · replace h := h.1 hc
    refine wp_aload_n dX0_spread_206 rfl rfl ?_
    refine wp_getR dX0_spread_207 fl_CustomValley_Flow_15 rfl rfl ?_
    refine wp_iload_n dX0_spread_210 rfl rfl ?_
    refine wp_dup2 dX0_spread_211 ?_
    have s2 := h.1
    replace h := h.2
    refine wp_iaload dX0_spread_212 rfl rfl s2.1 s2.2 ?_
    refine wp_iload dX0_spread_213 rfl ?_
    refine wp_iaddW dX0_spread_215 ?_
    have s1 := h.1
    replace h := h.2
    refine wp_iastore dX0_spread_216 rfl rfl s1.1 s1.2 ?_
    exact wp_ret dX0_spread_217 rfl h
  · replace h := h.2 hc
    refine wp_aload dX0_spread_65 rfl ?_
    refine wp_iload dX0_spread_67 rfl ?_
    refine wp_invV (N := mX9_isFree) [vI x9] dX0_spread_69 ml_CustomValley_Flow_74 mvX9_isFree rfl rfl rfl rfl rfl (Nat.le_of_ble_eq_true rfl) (Nat.le_of_ble_eq_true rfl) (by decide) (by decide) (by decide) ?_
    refine pb_X9_isFree (by trivial) ?_
    show WP mX0_spread 72 [vR 1 0, vR 2 j, vI x2, vU, vR 10 j, vI x5, vI x6, vI x7, vI x8, vI x9, vU, vU, vU, vU, vU] [vI (b2 (band (shr (σ 10 j 9) x9) 1 ≠ 0))] σ Q
    refine wp_if_ne (tgt := 78) dX0_spread_72 (by decide) (fun hc => ?_) (fun hc => ?_)
    · replace h := h.1 (b2_ne hc)
      refine wp_aload_n dX0_spread_78 rfl rfl ?_
      refine wp_getR dX0_spread_79 fl_CustomValley_Flow_78 rfl rfl ?_
      refine wp_iload_n dX0_spread_82 rfl rfl ?_
      refine wp_iload dX0_spread_83 rfl ?_
      have s6 := h.1
      replace h := h.2
      refine wp_invV (N := mX3_bits) [vI x2, vI x9] dX0_spread_85 ml_CustomValley_Flow_82 mvX3_bits rfl rfl rfl rfl rfl (Nat.le_of_ble_eq_true rfl) (Nat.le_of_ble_eq_true rfl) (by decide) (by decide) (by decide) ?_
      refine pb_X3_bits s6 ?_
      show WP mX0_spread 88 [vR 1 0, vR 2 j, vI x2, vU, vR 10 j, vI x5, vI x6, vI x7, vI x8, vI x9, vU, vU, vU, vU, vU] [vI (band (σ 23 j (((x2 * 10) + x9).toNat)) 15)] σ Q
      refine wp_istore dX0_spread_88 (by decide) rfl rfl ?_
      refine wp_aload_n dX0_spread_90 rfl rfl ?_
      refine wp_getR dX0_spread_91 fl_CustomValley_Flow_78 rfl rfl ?_
      refine wp_iload_n dX0_spread_94 rfl rfl ?_
      refine wp_iload dX0_spread_95 rfl ?_
      have s5 := h.1
      replace h := h.2
      refine wp_invV (N := mX3_own) [vI x2, vI x9] dX0_spread_97 ml_CustomValley_Flow_87 mvX3_own rfl rfl rfl rfl rfl (Nat.le_of_ble_eq_true rfl) (Nat.le_of_ble_eq_true rfl) (by decide) (by decide) (by decide) ?_
      refine pb_X3_own s5 ?_
      show WP mX0_spread 100 [vR 1 0, vR 2 j, vI x2, vU, vR 10 j, vI x5, vI x6, vI x7, vI x8, vI x9, vI (band (σ 23 j (((x2 * 10) + x9).toNat)) 15), vU, vU, vU, vU] [vI (shr (σ 23 j (((x2 * 10) + x9).toNat)) 4)] σ Q
      refine wp_istore dX0_spread_100 (by decide) rfl rfl ?_
      refine wp_iload dX0_spread_102 rfl ?_
      refine wp_iload dX0_spread_104 rfl ?_
      refine wp_isubW dX0_spread_106 ?_
      refine wp_iconst dX0_spread_107 rfl ?_
      refine wp_iload dX0_spread_108 rfl ?_
      have s4 := h.1
      replace h := h.2
      refine wp_invS (N := mJ6_bitCount_0f7a4) [vI (band (σ 23 j (((x2 * 10) + x9).toNat)) 15)] dX0_spread_110 ml_CustomValley_Flow_90 mvJ6_bitCount_0f7a4 rfl rfl rfl (Nat.le_of_ble_eq_true rfl) (Nat.le_of_ble_eq_true rfl) (by decide) (by decide) ?_
      refine pb_J6_bitCount_0f7a4 s4 ?_
      show WP mX0_spread 113 [vR 1 0, vR 2 j, vI x2, vU, vR 10 j, vI x5, vI x6, vI x7, vI x8, vI x9, vI (band (σ 23 j (((x2 * 10) + x9).toNat)) 15), vI (shr (σ 23 j (((x2 * 10) + x9).toNat)) 4), vU, vU, vU] [vI (bcnt ((band (σ 23 j (((x2 * 10) + x9).toNat)) 15))), vI 1, vI (w32 (x5 - x6))] σ Q
      refine wp_mmax dX0_spread_113 mm_CustomValley_Flow_62 (by decide) (Nat.le_of_ble_eq_true rfl) ?_
      have s3 := h.1
      replace h := h.2
      refine wp_idiv dX0_spread_116 ?_ (h1 := s3.1) (h2 := s3.2)
      refine wp_istore dX0_spread_117 (by decide) rfl rfl ?_
      refine wp_iconst dX0_spread_119 rfl ?_
      refine wp_istore dX0_spread_120 (by decide) rfl rfl ?_
      exact h
    · replace h := h.2 (b2_eq hc)
      refine wp_goto (tgt := 200) dX0_spread_75 (by decide) ?_
      have s7 := h.1
      replace h := h.2
      refine wp_iinc dX0_spread_200 rfl (by decide) rfl rfl ?_ (h1 := s7.1) (h2 := s7.2)
      refine wp_goto (tgt := 55) dX0_spread_203 (by decide) ?_
      exact h
theorem b_X0_spread_122 {j : Nat} {x2 : Int} {x5 : Int} {x6 : Int} {x7 : Int} {x8 : Int} {x9 : Int} {x10 : Int} {x11 : Int} {x12 : Int} {x13 : Int} {σ : St} {Q : Res → St → Prop} (h : (((σ 10 j 1) ≤ x13) → ((in32 (x9 + 1)) ∧ (WP mX0_spread 55 [vR 1 0, vR 2 j, vI x2, vU, vR 10 j, vI x5, vI x6, vI x7, vI x8, vI (x9 + 1), vU, vU, vU, vU, vU] [] σ Q))) ∧ ((x13 < (σ 10 j 1)) → (((x13 = x11) → ((in32 (x13 + 1)) ∧ (WP mX0_spread 122 [vR 1 0, vR 2 j, vI x2, vU, vR 10 j, vI x5, vI x6, vI x7, vI x8, vI x9, vI x10, vI x11, vI x12, vI (x13 + 1), vU] [] σ Q))) ∧ ((x13 ≠ x11) → ((((band (shr x10 x13) 1) = 0) → (WP mX0_spread 159 [vR 1 0, vR 2 j, vI x2, vU, vR 10 j, vI x5, vI x6, vI x7, vI x8, vI x9, vI x10, vI x11, vI x12, vI x13, vU] [vI x7] σ Q)) ∧ (((band (shr x10 x13) 1) ≠ 0) → (WP mX0_spread 159 [vR 1 0, vR 2 j, vI x2, vU, vR 10 j, vI x5, vI x6, vI x7, vI x8, vI x9, vI x10, vI x11, vI x12, vI x13, vU] [vI (w32 (x7 + x12))] σ Q))))))) : WP mX0_spread 122 [vR 1 0, vR 2 j, vI x2, vU, vR 10 j, vI x5, vI x6, vI x7, vI x8, vI x9, vI x10, vI x11, vI x12, vI x13, vU] [] σ Q := by
  refine wp_iload dX0_spread_122 rfl ?_
  refine wp_aload dX0_spread_124 rfl ?_
  refine wp_getI dX0_spread_126 fl_CustomValley_Flow_68 rfl rfl rfl ?_
  refine wp_icmp_ge (tgt := 200) dX0_spread_129 (by decide) (fun hc => ?_) (fun hc => ?_)
  · replace h := h.1 hc
    have s1 := h.1
    replace h := h.2
    refine wp_iinc dX0_spread_200 rfl (by decide) rfl rfl ?_ (h1 := s1.1) (h2 := s1.2)
    refine wp_goto (tgt := 55) dX0_spread_203 (by decide) ?_
    exact wp_drop (als' := [vR 1 0, vR 2 j, vI x2, vU, vR 10 j, vI x5, vI x6, vI x7, vI x8, vI (x9 + 1), vU, vU, vU, vU, vU]) (lle_c (Or.inl rfl) (lle_c (Or.inl rfl) (lle_c (Or.inl rfl) (lle_c (Or.inl rfl) (lle_c (Or.inl rfl) (lle_c (Or.inl rfl) (lle_c (Or.inl rfl) (lle_c (Or.inl rfl) (lle_c (Or.inl rfl) (lle_c (Or.inl rfl) (lle_c (Or.inr rfl) (lle_c (Or.inr rfl) (lle_c (Or.inr rfl) (lle_c (Or.inr rfl) (lle_c (Or.inl rfl) lle_n))))))))))))))) h
  · replace h := h.2 hc
    refine wp_iload dX0_spread_132 rfl ?_
    refine wp_iload dX0_spread_134 rfl ?_
    refine wp_icmp_eq (tgt := 194) dX0_spread_136 (by decide) (fun hc => ?_) (fun hc => ?_)
    · replace h := h.1 hc
      have s2 := h.1
      replace h := h.2
      refine wp_iinc dX0_spread_194 rfl (by decide) rfl rfl ?_ (h1 := s2.1) (h2 := s2.2)
      refine wp_goto (tgt := 122) dX0_spread_197 (by decide) ?_
      exact h
    · replace h := h.2 hc
      refine wp_iload dX0_spread_139 rfl ?_
      refine wp_iload dX0_spread_141 rfl ?_
      refine wp_ishr dX0_spread_143 ?_
      refine wp_iconst dX0_spread_144 rfl ?_
      refine wp_iand dX0_spread_145 ?_
      refine wp_if_eq (tgt := 157) dX0_spread_146 (by decide) (fun hc => ?_) (fun hc => ?_)
      · replace h := h.1 hc
        refine wp_iload dX0_spread_157 rfl ?_
        exact h
      · replace h := h.2 hc
        refine wp_iload dX0_spread_149 rfl ?_
        refine wp_iload dX0_spread_151 rfl ?_
        refine wp_iaddW dX0_spread_153 ?_
        refine wp_goto (tgt := 159) dX0_spread_154 (by decide) ?_
        exact h
theorem b_X0_spread_159 {j : Nat} {x2 : Int} {x5 : Int} {x6 : Int} {x7 : Int} {x8 : Int} {x9 : Int} {x10 : Int} {x11 : Int} {x12 : Int} {x13 : Int} {t0 : Int} {σ : St} {Q : Res → St → Prop} (h : (0 ≤ x9 ∧ x9 < 11) ∧ ((in32 ((w32 (x13 - x11)) * (σ 60 j x9.toNat))) ∧ ((0 ≤ w32 (x2 + ((w32 (x13 - x11)) * (σ 60 j x9.toNat))) ∧ (w32 (x2 + ((w32 (x13 - x11)) * (σ 60 j x9.toNat)))) < 1024) ∧ ((0 ≤ w32 (x2 + ((w32 (x13 - x11)) * (σ 60 j x9.toNat))) ∧ (w32 (x2 + ((w32 (x13 - x11)) * (σ 60 j x9.toNat)))) < 1024) ∧ ((in32 (x13 + 1)) ∧ (WP mX0_spread 122 [vR 1 0, vR 2 j, vI x2, vU, vR 10 j, vI x5, vI x6, vI x7, vI (w32 (x8 - t0)), vI x9, vI x10, vI x11, vI x12, vI (x13 + 1), vU] [] (up σ 21 0 ((w32 (x2 + ((w32 (x13 - x11)) * (σ 60 j x9.toNat)))).toNat) (w32 ((σ 21 0 ((w32 (x2 + ((w32 (x13 - x11)) * (σ 60 j x9.toNat)))).toNat)) + t0))) Q)))))) : WP mX0_spread 159 [vR 1 0, vR 2 j, vI x2, vU, vR 10 j, vI x5, vI x6, vI x7, vI x8, vI x9, vI x10, vI x11, vI x12, vI x13, vU] [vI t0] σ Q := by
  refine wp_istore dX0_spread_159 (by decide) rfl rfl ?_
  refine wp_aload_n dX0_spread_161 rfl rfl ?_
  refine wp_getR dX0_spread_162 fl_CustomValley_Flow_15 rfl rfl ?_
  refine wp_iload_n dX0_spread_165 rfl rfl ?_
  refine wp_iload dX0_spread_166 rfl ?_
  refine wp_iload dX0_spread_168 rfl ?_
  refine wp_isubW dX0_spread_170 ?_
  refine wp_aload dX0_spread_171 rfl ?_
  refine wp_getR dX0_spread_173 fl_CustomValley_Flow_96 rfl rfl ?_
  refine wp_iload dX0_spread_176 rfl ?_
  have s5 := h.1
  replace h := h.2
  refine wp_iaload dX0_spread_178 rfl rfl s5.1 s5.2 ?_
  have s4 := h.1
  replace h := h.2
  refine wp_imul dX0_spread_179 ?_ (h1 := s4.1) (h2 := s4.2)
  refine wp_iaddW dX0_spread_180 ?_
  refine wp_dup2 dX0_spread_181 ?_
  have s3 := h.1
  replace h := h.2
  refine wp_iaload dX0_spread_182 rfl rfl s3.1 s3.2 ?_
  refine wp_iload dX0_spread_183 rfl ?_
  refine wp_iaddW dX0_spread_185 ?_
  have s2 := h.1
  replace h := h.2
  refine wp_iastore dX0_spread_186 rfl rfl s2.1 s2.2 ?_
  refine wp_iload dX0_spread_187 rfl ?_
  refine wp_iload dX0_spread_189 rfl ?_
  refine wp_isubW dX0_spread_191 ?_
  refine wp_istore dX0_spread_192 (by decide) rfl rfl ?_
  have s1 := h.1
  replace h := h.2
  refine wp_iinc dX0_spread_194 rfl (by decide) rfl rfl ?_ (h1 := s1.1) (h2 := s1.2)
  refine wp_goto (tgt := 122) dX0_spread_197 (by decide) ?_
  exact wp_drop (als' := [vR 1 0, vR 2 j, vI x2, vU, vR 10 j, vI x5, vI x6, vI x7, vI (w32 (x8 - t0)), vI x9, vI x10, vI x11, vI x12, vI (x13 + 1), vU]) (lle_c (Or.inl rfl) (lle_c (Or.inl rfl) (lle_c (Or.inl rfl) (lle_c (Or.inl rfl) (lle_c (Or.inl rfl) (lle_c (Or.inl rfl) (lle_c (Or.inl rfl) (lle_c (Or.inl rfl) (lle_c (Or.inl rfl) (lle_c (Or.inl rfl) (lle_c (Or.inl rfl) (lle_c (Or.inl rfl) (lle_c (Or.inl rfl) (lle_c (Or.inl rfl) (lle_c (Or.inr rfl) lle_n))))))))))))))) h
theorem dX10_begin_0 : decode cX10_begin 0 = .ok (.aload_n 0, 1) := by decide +kernel
theorem dX10_begin_1 : decode cX10_begin 1 = .ok (.iconst 1, 1) := by decide +kernel
theorem dX10_begin_2 : decode cX10_begin 2 = .ok (.putfield 15, 3) := by decide +kernel
theorem dX10_begin_5 : decode cX10_begin 5 = .ok (.aload_n 0, 1) := by decide +kernel
theorem dX10_begin_6 : decode cX10_begin 6 = .ok (.iload_n 1, 1) := by decide +kernel
theorem dX10_begin_7 : decode cX10_begin 7 = .ok (.putfield 19, 3) := by decide +kernel
theorem dX10_begin_10 : decode cX10_begin 10 = .ok (.aload_n 0, 1) := by decide +kernel
theorem dX10_begin_11 : decode cX10_begin 11 = .ok (.iconst 0, 1) := by decide +kernel
theorem dX10_begin_12 : decode cX10_begin 12 = .ok (.putfield 23, 3) := by decide +kernel
theorem dX10_begin_15 : decode cX10_begin 15 = .ok (.aload_n 0, 1) := by decide +kernel
theorem dX10_begin_16 : decode cX10_begin 16 = .ok (.iconst 0, 1) := by decide +kernel
theorem dX10_begin_17 : decode cX10_begin 17 = .ok (.putfield 26, 3) := by decide +kernel
theorem dX10_begin_20 : decode cX10_begin 20 = .ok (.aload_n 0, 1) := by decide +kernel
theorem dX10_begin_21 : decode cX10_begin 21 = .ok (.iconst 0, 1) := by decide +kernel
theorem dX10_begin_22 : decode cX10_begin 22 = .ok (.putfield 29, 3) := by decide +kernel
theorem dX10_begin_25 : decode cX10_begin 25 = .ok (.aload_n 0, 1) := by decide +kernel
theorem dX10_begin_26 : decode cX10_begin 26 = .ok (.iconst 1, 1) := by decide +kernel
theorem dX10_begin_27 : decode cX10_begin 27 = .ok (.putfield 32, 3) := by decide +kernel
theorem dX10_begin_30 : decode cX10_begin 30 = .ok (.aload_n 0, 1) := by decide +kernel
theorem dX10_begin_31 : decode cX10_begin 31 = .ok (.getfield 9, 3) := by decide +kernel
theorem dX10_begin_34 : decode cX10_begin 34 = .ok (.iconst 0, 1) := by decide +kernel
theorem dX10_begin_35 : decode cX10_begin 35 = .ok (.invokestatic 35, 3) := by decide +kernel
theorem dX10_begin_38 : decode cX10_begin 38 = .ok (.return_, 1) := by decide +kernel
theorem b_X10_begin_0 {i : Nat} {x1 : Int} {σ : St} {Q : Res → St → Prop} (h : WP mJ7_fill_53178 0 [vR 62 i, vI 0, vU, vU] [] (up (up (up (up (up (up σ 11 i 0 1) 11 i 1 x1) 11 i 2 0) 11 i 3 0) 11 i 4 0) 11 i 5 1) (CT mX10_begin 38 [vU, vU] [] Q)) : WP mX10_begin 0 [vR 11 i, vI x1] [] σ Q := by
  refine wp_aload_n dX10_begin_0 rfl rfl ?_
  refine wp_iconst dX10_begin_1 rfl ?_
  refine wp_putZ dX10_begin_2 fp_CustomValley_Walk_15 rfl rfl rfl (by decide) ?_
  refine wp_aload_n dX10_begin_5 rfl rfl ?_
  refine wp_iload_n dX10_begin_6 rfl rfl ?_
  refine wp_putI dX10_begin_7 fp_CustomValley_Walk_19 rfl rfl rfl ?_
  refine wp_aload_n dX10_begin_10 rfl rfl ?_
  refine wp_iconst dX10_begin_11 rfl ?_
  refine wp_putI dX10_begin_12 fp_CustomValley_Walk_23 rfl rfl rfl ?_
  refine wp_aload_n dX10_begin_15 rfl rfl ?_
  refine wp_iconst dX10_begin_16 rfl ?_
  refine wp_putI dX10_begin_17 fp_CustomValley_Walk_26 rfl rfl rfl ?_
  refine wp_aload_n dX10_begin_20 rfl rfl ?_
  refine wp_iconst dX10_begin_21 rfl ?_
  refine wp_putI dX10_begin_22 fp_CustomValley_Walk_29 rfl rfl rfl ?_
  refine wp_aload_n dX10_begin_25 rfl rfl ?_
  refine wp_iconst dX10_begin_26 rfl ?_
  refine wp_putZ dX10_begin_27 fp_CustomValley_Walk_32 rfl rfl rfl (by decide) ?_
  refine wp_aload_n dX10_begin_30 rfl rfl ?_
  refine wp_getR dX10_begin_31 fl_CustomValley_Walk_9 rfl rfl ?_
  refine wp_iconst dX10_begin_34 rfl ?_
  refine wp_invS (N := mJ7_fill_53178) [vR 62 i, vI 0] dX10_begin_35 ml_CustomValley_Walk_35 mvJ7_fill_53178 rfl rfl rfl (Nat.le_of_ble_eq_true rfl) (Nat.le_of_ble_eq_true rfl) (by decide) (by decide) ?_
  exact WP.mono h (ct_drop (lle_c (Or.inr rfl) (lle_c (Or.inr rfl) lle_n)))
theorem b_X10_begin_38  {σ : St} {Q : Res → St → Prop} (h : Q (.inl none) σ) : WP mX10_begin 38 [vU, vU] [] σ Q := by
  exact wp_ret dX10_begin_38 rfl h
theorem dX8_chooseCheapest_0 : decode cX8_chooseCheapest 0 = .ok (.iconst 0, 1) := by decide +kernel
theorem dX8_chooseCheapest_1 : decode cX8_chooseCheapest 1 = .ok (.istore_n 3, 1) := by decide +kernel
theorem dX8_chooseCheapest_2 : decode cX8_chooseCheapest 2 = .ok (.iconst 0, 1) := by decide +kernel
theorem dX8_chooseCheapest_3 : decode cX8_chooseCheapest 3 = .ok (.istore 4, 2) := by decide +kernel
theorem dX8_chooseCheapest_5 : decode cX8_chooseCheapest 5 = .ok (.iload 4, 2) := by decide +kernel
theorem dX8_chooseCheapest_7 : decode cX8_chooseCheapest 7 = .ok (.iload_n 1, 1) := by decide +kernel
theorem dX8_chooseCheapest_8 : decode cX8_chooseCheapest 8 = .ok (.if_icmp .ge 120, 3) := by decide +kernel
theorem dX8_chooseCheapest_11 : decode cX8_chooseCheapest 11 = .ok (.aload_n 0, 1) := by decide +kernel
theorem dX8_chooseCheapest_12 : decode cX8_chooseCheapest 12 = .ok (.getfield 24, 3) := by decide +kernel
theorem dX8_chooseCheapest_15 : decode cX8_chooseCheapest 15 = .ok (.iload 4, 2) := by decide +kernel
theorem dX8_chooseCheapest_17 : decode cX8_chooseCheapest 17 = .ok (.iconst (-1), 1) := by decide +kernel
theorem dX8_chooseCheapest_18 : decode cX8_chooseCheapest 18 = .ok (.iastore, 1) := by decide +kernel
theorem dX8_chooseCheapest_19 : decode cX8_chooseCheapest 19 = .ok (.iconst 0, 1) := by decide +kernel
theorem dX8_chooseCheapest_20 : decode cX8_chooseCheapest 20 = .ok (.istore 5, 2) := by decide +kernel
theorem dX8_chooseCheapest_22 : decode cX8_chooseCheapest 22 = .ok (.iload 5, 2) := by decide +kernel
theorem dX8_chooseCheapest_24 : decode cX8_chooseCheapest 24 = .ok (.iload_n 1, 1) := by decide +kernel
theorem dX8_chooseCheapest_25 : decode cX8_chooseCheapest 25 = .ok (.if_icmp .ge 66, 3) := by decide +kernel
theorem dX8_chooseCheapest_28 : decode cX8_chooseCheapest 28 = .ok (.iload 4, 2) := by decide +kernel
theorem dX8_chooseCheapest_30 : decode cX8_chooseCheapest 30 = .ok (.iload_n 2, 1) := by decide +kernel
theorem dX8_chooseCheapest_31 : decode cX8_chooseCheapest 31 = .ok (.if_icmp .eq 60, 3) := by decide +kernel
theorem dX8_chooseCheapest_34 : decode cX8_chooseCheapest 34 = .ok (.iload 5, 2) := by decide +kernel
theorem dX8_chooseCheapest_36 : decode cX8_chooseCheapest 36 = .ok (.iload 4, 2) := by decide +kernel
theorem dX8_chooseCheapest_38 : decode cX8_chooseCheapest 38 = .ok (.if_icmp .eq 47, 3) := by decide +kernel
theorem dX8_chooseCheapest_41 : decode cX8_chooseCheapest 41 = .ok (.aload_n 0, 1) := by decide +kernel
theorem dX8_chooseCheapest_42 : decode cX8_chooseCheapest 42 = .ok (.getfield 24, 3) := by decide +kernel
theorem dX8_chooseCheapest_45 : decode cX8_chooseCheapest 45 = .ok (.iload 4, 2) := by decide +kernel
theorem dX8_chooseCheapest_47 : decode cX8_chooseCheapest 47 = .ok (.iaload, 1) := by decide +kernel
theorem dX8_chooseCheapest_48 : decode cX8_chooseCheapest 48 = .ok (.iconst (-1), 1) := by decide +kernel
theorem dX8_chooseCheapest_49 : decode cX8_chooseCheapest 49 = .ok (.if_icmp .eq 27, 3) := by decide +kernel
theorem dX8_chooseCheapest_52 : decode cX8_chooseCheapest 52 = .ok (.aload_n 0, 1) := by decide +kernel
theorem dX8_chooseCheapest_53 : decode cX8_chooseCheapest 53 = .ok (.iload 4, 2) := by decide +kernel
theorem dX8_chooseCheapest_55 : decode cX8_chooseCheapest 55 = .ok (.iload 5, 2) := by decide +kernel
theorem dX8_chooseCheapest_57 : decode cX8_chooseCheapest 57 = .ok (.invokevirtual 85, 3) := by decide +kernel
theorem dX8_chooseCheapest_60 : decode cX8_chooseCheapest 60 = .ok (.aload_n 0, 1) := by decide +kernel
theorem dX8_chooseCheapest_61 : decode cX8_chooseCheapest 61 = .ok (.iload 4, 2) := by decide +kernel
theorem dX8_chooseCheapest_63 : decode cX8_chooseCheapest 63 = .ok (.aload_n 0, 1) := by decide +kernel
theorem dX8_chooseCheapest_64 : decode cX8_chooseCheapest 64 = .ok (.getfield 24, 3) := by decide +kernel
theorem dX8_chooseCheapest_67 : decode cX8_chooseCheapest 67 = .ok (.iload 4, 2) := by decide +kernel
theorem dX8_chooseCheapest_69 : decode cX8_chooseCheapest 69 = .ok (.iaload, 1) := by decide +kernel
theorem dX8_chooseCheapest_70 : decode cX8_chooseCheapest 70 = .ok (.invokevirtual 85, 3) := by decide +kernel
theorem dX8_chooseCheapest_73 : decode cX8_chooseCheapest 73 = .ok (.if_icmp .ge 12, 3) := by decide +kernel
theorem dX8_chooseCheapest_76 : decode cX8_chooseCheapest 76 = .ok (.aload_n 0, 1) := by decide +kernel
theorem dX8_chooseCheapest_77 : decode cX8_chooseCheapest 77 = .ok (.getfield 24, 3) := by decide +kernel
theorem dX8_chooseCheapest_80 : decode cX8_chooseCheapest 80 = .ok (.iload 4, 2) := by decide +kernel
theorem dX8_chooseCheapest_82 : decode cX8_chooseCheapest 82 = .ok (.iload 5, 2) := by decide +kernel
theorem dX8_chooseCheapest_84 : decode cX8_chooseCheapest 84 = .ok (.iastore, 1) := by decide +kernel
theorem dX8_chooseCheapest_85 : decode cX8_chooseCheapest 85 = .ok (.iinc 5 1, 3) := by decide +kernel
theorem dX8_chooseCheapest_88 : decode cX8_chooseCheapest 88 = .ok (.goto (-66), 3) := by decide +kernel
theorem dX8_chooseCheapest_91 : decode cX8_chooseCheapest 91 = .ok (.iload_n 3, 1) := by decide +kernel
theorem dX8_chooseCheapest_92 : decode cX8_chooseCheapest 92 = .ok (.aload_n 0, 1) := by decide +kernel
theorem dX8_chooseCheapest_93 : decode cX8_chooseCheapest 93 = .ok (.getfield 24, 3) := by decide +kernel
theorem dX8_chooseCheapest_96 : decode cX8_chooseCheapest 96 = .ok (.iload 4, 2) := by decide +kernel
theorem dX8_chooseCheapest_98 : decode cX8_chooseCheapest 98 = .ok (.iaload, 1) := by decide +kernel
theorem dX8_chooseCheapest_99 : decode cX8_chooseCheapest 99 = .ok (.iconst (-1), 1) := by decide +kernel
theorem dX8_chooseCheapest_100 : decode cX8_chooseCheapest 100 = .ok (.if_icmp .ne 7, 3) := by decide +kernel
theorem dX8_chooseCheapest_103 : decode cX8_chooseCheapest 103 = .ok (.iconst 0, 1) := by decide +kernel
theorem dX8_chooseCheapest_104 : decode cX8_chooseCheapest 104 = .ok (.goto 16, 3) := by decide +kernel
theorem dX8_chooseCheapest_107 : decode cX8_chooseCheapest 107 = .ok (.aload_n 0, 1) := by decide +kernel
theorem dX8_chooseCheapest_108 : decode cX8_chooseCheapest 108 = .ok (.iload 4, 2) := by decide +kernel
theorem dX8_chooseCheapest_110 : decode cX8_chooseCheapest 110 = .ok (.aload_n 0, 1) := by decide +kernel
theorem dX8_chooseCheapest_111 : decode cX8_chooseCheapest 111 = .ok (.getfield 24, 3) := by decide +kernel
theorem dX8_chooseCheapest_114 : decode cX8_chooseCheapest 114 = .ok (.iload 4, 2) := by decide +kernel
theorem dX8_chooseCheapest_116 : decode cX8_chooseCheapest 116 = .ok (.iaload, 1) := by decide +kernel
theorem dX8_chooseCheapest_117 : decode cX8_chooseCheapest 117 = .ok (.invokevirtual 85, 3) := by decide +kernel
theorem dX8_chooseCheapest_120 : decode cX8_chooseCheapest 120 = .ok (.iadd, 1) := by decide +kernel
theorem dX8_chooseCheapest_121 : decode cX8_chooseCheapest 121 = .ok (.istore_n 3, 1) := by decide +kernel
theorem dX8_chooseCheapest_122 : decode cX8_chooseCheapest 122 = .ok (.iinc 4 1, 3) := by decide +kernel
theorem dX8_chooseCheapest_125 : decode cX8_chooseCheapest 125 = .ok (.goto (-120), 3) := by decide +kernel
theorem dX8_chooseCheapest_128 : decode cX8_chooseCheapest 128 = .ok (.iload_n 3, 1) := by decide +kernel
theorem dX8_chooseCheapest_129 : decode cX8_chooseCheapest 129 = .ok (.ireturn, 1) := by decide +kernel
theorem b_X8_chooseCheapest_0 {x1 : Int} {x2 : Int} {σ : St} {Q : Res → St → Prop} (h : WP mX8_chooseCheapest 5 [vR 9 0, vI x1, vI x2, vI 0, vI 0, vU] [] σ Q) : WP mX8_chooseCheapest 0 [vR 9 0, vI x1, vI x2, vU, vU, vU] [] σ Q := by
  refine wp_iconst dX8_chooseCheapest_0 rfl ?_
  refine wp_istore_n dX8_chooseCheapest_1 rfl (by decide) rfl rfl ?_
  refine wp_iconst dX8_chooseCheapest_2 rfl ?_
  refine wp_istore dX8_chooseCheapest_3 (by decide) rfl rfl ?_
  exact h
theorem b_X8_chooseCheapest_5 {x1 : Int} {x2 : Int} {x3 : Int} {x4 : Int} {σ : St} {Q : Res → St → Prop} (h : ((x1 ≤ x4) → (Q (.inl (some (vI x3))) σ)) ∧ ((x4 < x1) → ((0 ≤ x4 ∧ x4 < 12) ∧ (WP mX8_chooseCheapest 22 [vR 9 0, vI x1, vI x2, vI x3, vI x4, vI 0] [] (up σ 51 0 x4.toNat (-1)) Q)))) : WP mX8_chooseCheapest 5 [vR 9 0, vI x1, vI x2, vI x3, vI x4, vU] [] σ Q := by
  refine wp_iload dX8_chooseCheapest_5 rfl ?_
  refine wp_iload_n dX8_chooseCheapest_7 rfl rfl ?_
  refine wp_icmp_ge (tgt := 128) dX8_chooseCheapest_8 (by decide) (fun hc => ?_) (fun hc => ?_)
  · replace h := h.1 hc
    refine wp_iload_n dX8_chooseCheapest_128 rfl rfl ?_
    exact wp_iret dX8_chooseCheapest_129 rfl h
  · replace h := h.2 hc
    refine wp_aload_n dX8_chooseCheapest_11 rfl rfl ?_
    refine wp_getR dX8_chooseCheapest_12 fl_CustomValley_Trees_24 rfl rfl ?_
    refine wp_iload dX8_chooseCheapest_15 rfl ?_
    refine wp_iconst dX8_chooseCheapest_17 rfl ?_
    have s1 := h.1
    replace h := h.2
    refine wp_iastore dX8_chooseCheapest_18 rfl rfl s1.1 s1.2 ?_
    refine wp_iconst dX8_chooseCheapest_19 rfl ?_
    refine wp_istore dX8_chooseCheapest_20 (by decide) rfl rfl ?_
    exact h
theorem b_X8_chooseCheapest_22 {x1 : Int} {x2 : Int} {x3 : Int} {x4 : Int} {x5 : Int} {σ : St} {Q : Res → St → Prop} (h : ((x1 ≤ x5) → (WP mX8_chooseCheapest 91 [vR 9 0, vI x1, vI x2, vI x3, vI x4, vU] [] σ Q)) ∧ ((x5 < x1) → (((x4 = x2) → (WP mX8_chooseCheapest 91 [vR 9 0, vI x1, vI x2, vI x3, vI x4, vU] [] σ Q)) ∧ ((x4 ≠ x2) → (((x5 = x4) → ((in32 (x5 + 1)) ∧ (WP mX8_chooseCheapest 22 [vR 9 0, vI x1, vI x2, vI x3, vI x4, vI (x5 + 1)] [] σ Q))) ∧ ((x5 ≠ x4) → ((0 ≤ x4 ∧ x4 < 12) ∧ ((((σ 51 0 x4.toNat) = (-1)) → ((0 ≤ x4 ∧ x4 < 12) ∧ ((in32 (x5 + 1)) ∧ (WP mX8_chooseCheapest 22 [vR 9 0, vI x1, vI x2, vI x3, vI x4, vI (x5 + 1)] [] (up σ 51 0 x4.toNat x5) Q)))) ∧ (((σ 51 0 x4.toNat) ≠ (-1)) → ((in32 (x4 * 12) ∧ in32 ((x4 * 12) + x5) ∧ 0 ≤ (x4 * 12) + x5 ∧ ((x4 * 12) + x5) < 144) ∧ ((0 ≤ x4 ∧ x4 < 12) ∧ ((in32 (x4 * 12) ∧ in32 ((x4 * 12) + (σ 51 0 x4.toNat)) ∧ 0 ≤ (x4 * 12) + (σ 51 0 x4.toNat) ∧ ((x4 * 12) + (σ 51 0 x4.toNat)) < 144) ∧ ((((σ 49 0 (((x4 * 12) + (σ 51 0 x4.toNat)).toNat)) ≤ (σ 49 0 (((x4 * 12) + x5).toNat))) → ((in32 (x5 + 1)) ∧ (WP mX8_chooseCheapest 22 [vR 9 0, vI x1, vI x2, vI x3, vI x4, vI (x5 + 1)] [] σ Q))) ∧ (((σ 49 0 (((x4 * 12) + x5).toNat)) < (σ 49 0 (((x4 * 12) + (σ 51 0 x4.toNat)).toNat))) → ((0 ≤ x4 ∧ x4 < 12) ∧ ((in32 (x5 + 1)) ∧ (WP mX8_chooseCheapest 22 [vR 9 0, vI x1, vI x2, vI x3, vI x4, vI (x5 + 1)] [] (up σ 51 0 x4.toNat x5) Q))))))))))))))))) : WP mX8_chooseCheapest 22 [vR 9 0, vI x1, vI x2, vI x3, vI x4, vI x5] [] σ Q := by
  refine wp_iload dX8_chooseCheapest_22 rfl ?_
  refine wp_iload_n dX8_chooseCheapest_24 rfl rfl ?_
  refine wp_icmp_ge (tgt := 91) dX8_chooseCheapest_25 (by decide) (fun hc => ?_) (fun hc => ?_)
  · replace h := h.1 hc
    exact wp_drop (als' := [vR 9 0, vI x1, vI x2, vI x3, vI x4, vU]) (lle_c (Or.inl rfl) (lle_c (Or.inl rfl) (lle_c (Or.inl rfl) (lle_c (Or.inl rfl) (lle_c (Or.inl rfl) (lle_c (Or.inr rfl) lle_n)))))) h
  · replace h := h.2 hc
    refine wp_iload dX8_chooseCheapest_28 rfl ?_
    refine wp_iload_n dX8_chooseCheapest_30 rfl rfl ?_
    refine wp_icmp_eq (tgt := 91) dX8_chooseCheapest_31 (by decide) (fun hc => ?_) (fun hc => ?_)
    · replace h := h.1 hc
      exact wp_drop (als' := [vR 9 0, vI x1, vI x2, vI x3, vI x4, vU]) (lle_c (Or.inl rfl) (lle_c (Or.inl rfl) (lle_c (Or.inl rfl) (lle_c (Or.inl rfl) (lle_c (Or.inl rfl) (lle_c (Or.inr rfl) lle_n)))))) h
    · replace h := h.2 hc
      refine wp_iload dX8_chooseCheapest_34 rfl ?_
      refine wp_iload dX8_chooseCheapest_36 rfl ?_
      refine wp_icmp_eq (tgt := 85) dX8_chooseCheapest_38 (by decide) (fun hc => ?_) (fun hc => ?_)
      · replace h := h.1 hc
        have s1 := h.1
        replace h := h.2
        refine wp_iinc dX8_chooseCheapest_85 rfl (by decide) rfl rfl ?_ (h1 := s1.1) (h2 := s1.2)
        refine wp_goto (tgt := 22) dX8_chooseCheapest_88 (by decide) ?_
        exact h
      · replace h := h.2 hc
        refine wp_aload_n dX8_chooseCheapest_41 rfl rfl ?_
        refine wp_getR dX8_chooseCheapest_42 fl_CustomValley_Trees_24 rfl rfl ?_
        refine wp_iload dX8_chooseCheapest_45 rfl ?_
        have s10 := h.1
        replace h := h.2
        refine wp_iaload dX8_chooseCheapest_47 rfl rfl s10.1 s10.2 ?_
        refine wp_iconst dX8_chooseCheapest_48 rfl ?_
        refine wp_icmp_eq (tgt := 76) dX8_chooseCheapest_49 (by decide) (fun hc => ?_) (fun hc => ?_)
        · replace h := h.1 hc
          refine wp_aload_n dX8_chooseCheapest_76 rfl rfl ?_
          refine wp_getR dX8_chooseCheapest_77 fl_CustomValley_Trees_24 rfl rfl ?_
          refine wp_iload dX8_chooseCheapest_80 rfl ?_
          refine wp_iload dX8_chooseCheapest_82 rfl ?_
          have s3 := h.1
          replace h := h.2
          refine wp_iastore dX8_chooseCheapest_84 rfl rfl s3.1 s3.2 ?_
          have s2 := h.1
          replace h := h.2
          refine wp_iinc dX8_chooseCheapest_85 rfl (by decide) rfl rfl ?_ (h1 := s2.1) (h2 := s2.2)
          refine wp_goto (tgt := 22) dX8_chooseCheapest_88 (by decide) ?_
          exact h
        · replace h := h.2 hc
          refine wp_aload_n dX8_chooseCheapest_52 rfl rfl ?_
          refine wp_iload dX8_chooseCheapest_53 rfl ?_
          refine wp_iload dX8_chooseCheapest_55 rfl ?_
          have s9 := h.1
          replace h := h.2
          refine wp_invV (N := mX8_edge) [vI x4, vI x5] dX8_chooseCheapest_57 ml_CustomValley_Trees_85 mvX8_edge rfl rfl rfl rfl rfl (Nat.le_of_ble_eq_true rfl) (Nat.le_of_ble_eq_true rfl) (by decide) (by decide) (by decide) ?_
          refine pb_X8_edge s9 ?_
          show WP mX8_chooseCheapest 60 [vR 9 0, vI x1, vI x2, vI x3, vI x4, vI x5] [vI (σ 49 0 (((x4 * 12) + x5).toNat))] σ Q
          refine wp_aload_n dX8_chooseCheapest_60 rfl rfl ?_
          refine wp_iload dX8_chooseCheapest_61 rfl ?_
          refine wp_aload_n dX8_chooseCheapest_63 rfl rfl ?_
          refine wp_getR dX8_chooseCheapest_64 fl_CustomValley_Trees_24 rfl rfl ?_
          refine wp_iload dX8_chooseCheapest_67 rfl ?_
          have s8 := h.1
          replace h := h.2
          refine wp_iaload dX8_chooseCheapest_69 rfl rfl s8.1 s8.2 ?_
          have s7 := h.1
          replace h := h.2
          refine wp_invV (N := mX8_edge) [vI x4, vI (σ 51 0 x4.toNat)] dX8_chooseCheapest_70 ml_CustomValley_Trees_85 mvX8_edge rfl rfl rfl rfl rfl (Nat.le_of_ble_eq_true rfl) (Nat.le_of_ble_eq_true rfl) (by decide) (by decide) (by decide) ?_
          refine pb_X8_edge s7 ?_
          show WP mX8_chooseCheapest 73 [vR 9 0, vI x1, vI x2, vI x3, vI x4, vI x5] [vI (σ 49 0 (((x4 * 12) + (σ 51 0 x4.toNat)).toNat)), vI (σ 49 0 (((x4 * 12) + x5).toNat))] σ Q
          refine wp_icmp_ge (tgt := 85) dX8_chooseCheapest_73 (by decide) (fun hc => ?_) (fun hc => ?_)
          · replace h := h.1 hc
            have s4 := h.1
            replace h := h.2
            refine wp_iinc dX8_chooseCheapest_85 rfl (by decide) rfl rfl ?_ (h1 := s4.1) (h2 := s4.2)
            refine wp_goto (tgt := 22) dX8_chooseCheapest_88 (by decide) ?_
            exact h
          · replace h := h.2 hc
            refine wp_aload_n dX8_chooseCheapest_76 rfl rfl ?_
            refine wp_getR dX8_chooseCheapest_77 fl_CustomValley_Trees_24 rfl rfl ?_
            refine wp_iload dX8_chooseCheapest_80 rfl ?_
            refine wp_iload dX8_chooseCheapest_82 rfl ?_
            have s6 := h.1
            replace h := h.2
            refine wp_iastore dX8_chooseCheapest_84 rfl rfl s6.1 s6.2 ?_
            have s5 := h.1
            replace h := h.2
            refine wp_iinc dX8_chooseCheapest_85 rfl (by decide) rfl rfl ?_ (h1 := s5.1) (h2 := s5.2)
            refine wp_goto (tgt := 22) dX8_chooseCheapest_88 (by decide) ?_
            exact h
theorem b_X8_chooseCheapest_91 {x1 : Int} {x2 : Int} {x3 : Int} {x4 : Int} {σ : St} {Q : Res → St → Prop} (h : (0 ≤ x4 ∧ x4 < 12) ∧ ((((σ 51 0 x4.toNat) ≠ (-1)) → ((0 ≤ x4 ∧ x4 < 12) ∧ ((in32 (x4 * 12) ∧ in32 ((x4 * 12) + (σ 51 0 x4.toNat)) ∧ 0 ≤ (x4 * 12) + (σ 51 0 x4.toNat) ∧ ((x4 * 12) + (σ 51 0 x4.toNat)) < 144) ∧ ((in32 (x3 + (σ 49 0 (((x4 * 12) + (σ 51 0 x4.toNat)).toNat)))) ∧ ((in32 (x4 + 1)) ∧ (WP mX8_chooseCheapest 5 [vR 9 0, vI x1, vI x2, vI (x3 + (σ 49 0 (((x4 * 12) + (σ 51 0 x4.toNat)).toNat))), vI (x4 + 1), vU] [] σ Q)))))) ∧ (((σ 51 0 x4.toNat) = (-1)) → ((in32 (x3 + 0)) ∧ ((in32 (x4 + 1)) ∧ (WP mX8_chooseCheapest 5 [vR 9 0, vI x1, vI x2, vI (x3 + 0), vI (x4 + 1), vU] [] σ Q)))))) : WP mX8_chooseCheapest 91 [vR 9 0, vI x1, vI x2, vI x3, vI x4, vU] [] σ Q := by
  refine wp_iload_n dX8_chooseCheapest_91 rfl rfl ?_
  refine wp_aload_n dX8_chooseCheapest_92 rfl rfl ?_
  refine wp_getR dX8_chooseCheapest_93 fl_CustomValley_Trees_24 rfl rfl ?_
  refine wp_iload dX8_chooseCheapest_96 rfl ?_
  have s7 := h.1
  replace h := h.2
  refine wp_iaload dX8_chooseCheapest_98 rfl rfl s7.1 s7.2 ?_
  refine wp_iconst dX8_chooseCheapest_99 rfl ?_
  refine wp_icmp_ne (tgt := 107) dX8_chooseCheapest_100 (by decide) (fun hc => ?_) (fun hc => ?_)
  · replace h := h.1 hc
    refine wp_aload_n dX8_chooseCheapest_107 rfl rfl ?_
    refine wp_iload dX8_chooseCheapest_108 rfl ?_
    refine wp_aload_n dX8_chooseCheapest_110 rfl rfl ?_
    refine wp_getR dX8_chooseCheapest_111 fl_CustomValley_Trees_24 rfl rfl ?_
    refine wp_iload dX8_chooseCheapest_114 rfl ?_
    have s4 := h.1
    replace h := h.2
    refine wp_iaload dX8_chooseCheapest_116 rfl rfl s4.1 s4.2 ?_
    have s3 := h.1
    replace h := h.2
    refine wp_invV (N := mX8_edge) [vI x4, vI (σ 51 0 x4.toNat)] dX8_chooseCheapest_117 ml_CustomValley_Trees_85 mvX8_edge rfl rfl rfl rfl rfl (Nat.le_of_ble_eq_true rfl) (Nat.le_of_ble_eq_true rfl) (by decide) (by decide) (by decide) ?_
    refine pb_X8_edge s3 ?_
    show WP mX8_chooseCheapest 120 [vR 9 0, vI x1, vI x2, vI x3, vI x4, vU] [vI (σ 49 0 (((x4 * 12) + (σ 51 0 x4.toNat)).toNat)), vI x3] σ Q
    have s2 := h.1
    replace h := h.2
    refine wp_iadd dX8_chooseCheapest_120 ?_ (h1 := s2.1) (h2 := s2.2)
    refine wp_istore_n dX8_chooseCheapest_121 rfl (by decide) rfl rfl ?_
    have s1 := h.1
    replace h := h.2
    refine wp_iinc dX8_chooseCheapest_122 rfl (by decide) rfl rfl ?_ (h1 := s1.1) (h2 := s1.2)
    refine wp_goto (tgt := 5) dX8_chooseCheapest_125 (by decide) ?_
    exact h
  · replace h := h.2 hc
    refine wp_iconst dX8_chooseCheapest_103 rfl ?_
    refine wp_goto (tgt := 120) dX8_chooseCheapest_104 (by decide) ?_
    have s6 := h.1
    replace h := h.2
    refine wp_iadd dX8_chooseCheapest_120 ?_ (h1 := s6.1) (h2 := s6.2)
    refine wp_istore_n dX8_chooseCheapest_121 rfl (by decide) rfl rfl ?_
    have s5 := h.1
    replace h := h.2
    refine wp_iinc dX8_chooseCheapest_122 rfl (by decide) rfl rfl ?_ (h1 := s5.1) (h2 := s5.2)
    refine wp_goto (tgt := 5) dX8_chooseCheapest_125 (by decide) ?_
    exact h
theorem dX8_drawTogether_0 : decode cX8_drawTogether 0 = .ok (.aload_n 0, 1) := by decide +kernel
theorem dX8_drawTogether_1 : decode cX8_drawTogether 1 = .ok (.getfield 21, 3) := by decide +kernel
theorem dX8_drawTogether_4 : decode cX8_drawTogether 4 = .ok (.ldc 67, 2) := by decide +kernel
theorem dX8_drawTogether_6 : decode cX8_drawTogether 6 = .ok (.invokestatic 37, 3) := by decide +kernel
theorem dX8_drawTogether_9 : decode cX8_drawTogether 9 = .ok (.iconst 0, 1) := by decide +kernel
theorem dX8_drawTogether_10 : decode cX8_drawTogether 10 = .ok (.istore 4, 2) := by decide +kernel
theorem dX8_drawTogether_12 : decode cX8_drawTogether 12 = .ok (.iload 4, 2) := by decide +kernel
theorem dX8_drawTogether_14 : decode cX8_drawTogether 14 = .ok (.iload_n 1, 1) := by decide +kernel
theorem dX8_drawTogether_15 : decode cX8_drawTogether 15 = .ok (.if_icmp .ge 125, 3) := by decide +kernel
theorem dX8_drawTogether_18 : decode cX8_drawTogether 18 = .ok (.iload 4, 2) := by decide +kernel
theorem dX8_drawTogether_20 : decode cX8_drawTogether 20 = .ok (.iload_n 3, 1) := by decide +kernel
theorem dX8_drawTogether_21 : decode cX8_drawTogether 21 = .ok (.if_icmp .eq 14, 3) := by decide +kernel
theorem dX8_drawTogether_24 : decode cX8_drawTogether 24 = .ok (.aload_n 0, 1) := by decide +kernel
theorem dX8_drawTogether_25 : decode cX8_drawTogether 25 = .ok (.getfield 24, 3) := by decide +kernel
theorem dX8_drawTogether_28 : decode cX8_drawTogether 28 = .ok (.iload 4, 2) := by decide +kernel
theorem dX8_drawTogether_30 : decode cX8_drawTogether 30 = .ok (.iaload, 1) := by decide +kernel
theorem dX8_drawTogether_31 : decode cX8_drawTogether 31 = .ok (.iconst (-1), 1) := by decide +kernel
theorem dX8_drawTogether_32 : decode cX8_drawTogether 32 = .ok (.if_icmp .ne 7, 3) := by decide +kernel
theorem dX8_drawTogether_35 : decode cX8_drawTogether 35 = .ok (.iconst 0, 1) := by decide +kernel
theorem dX8_drawTogether_36 : decode cX8_drawTogether 36 = .ok (.goto 16, 3) := by decide +kernel
theorem dX8_drawTogether_39 : decode cX8_drawTogether 39 = .ok (.aload_n 0, 1) := by decide +kernel
theorem dX8_drawTogether_40 : decode cX8_drawTogether 40 = .ok (.iload 4, 2) := by decide +kernel
theorem dX8_drawTogether_42 : decode cX8_drawTogether 42 = .ok (.aload_n 0, 1) := by decide +kernel
theorem dX8_drawTogether_43 : decode cX8_drawTogether 43 = .ok (.getfield 24, 3) := by decide +kernel
theorem dX8_drawTogether_46 : decode cX8_drawTogether 46 = .ok (.iload 4, 2) := by decide +kernel
theorem dX8_drawTogether_48 : decode cX8_drawTogether 48 = .ok (.iaload, 1) := by decide +kernel
theorem dX8_drawTogether_49 : decode cX8_drawTogether 49 = .ok (.invokevirtual 85, 3) := by decide +kernel
theorem dX8_drawTogether_52 : decode cX8_drawTogether 52 = .ok (.istore 5, 2) := by decide +kernel
theorem dX8_drawTogether_54 : decode cX8_drawTogether 54 = .ok (.iconst 0, 1) := by decide +kernel
theorem dX8_drawTogether_55 : decode cX8_drawTogether 55 = .ok (.istore 6, 2) := by decide +kernel
theorem dX8_drawTogether_57 : decode cX8_drawTogether 57 = .ok (.iload 6, 2) := by decide +kernel
theorem dX8_drawTogether_59 : decode cX8_drawTogether 59 = .ok (.iload_n 1, 1) := by decide +kernel
theorem dX8_drawTogether_60 : decode cX8_drawTogether 60 = .ok (.if_icmp .ge 74, 3) := by decide +kernel
theorem dX8_drawTogether_63 : decode cX8_drawTogether 63 = .ok (.aload_n 0, 1) := by decide +kernel
theorem dX8_drawTogether_64 : decode cX8_drawTogether 64 = .ok (.getfield 30, 3) := by decide +kernel
theorem dX8_drawTogether_67 : decode cX8_drawTogether 67 = .ok (.iload 4, 2) := by decide +kernel
theorem dX8_drawTogether_69 : decode cX8_drawTogether 69 = .ok (.iaload, 1) := by decide +kernel
theorem dX8_drawTogether_70 : decode cX8_drawTogether 70 = .ok (.aload_n 0, 1) := by decide +kernel
theorem dX8_drawTogether_71 : decode cX8_drawTogether 71 = .ok (.getfield 30, 3) := by decide +kernel
theorem dX8_drawTogether_74 : decode cX8_drawTogether 74 = .ok (.iload 6, 2) := by decide +kernel
theorem dX8_drawTogether_76 : decode cX8_drawTogether 76 = .ok (.iaload, 1) := by decide +kernel
theorem dX8_drawTogether_77 : decode cX8_drawTogether 77 = .ok (.if_icmp .eq 51, 3) := by decide +kernel
theorem dX8_drawTogether_80 : decode cX8_drawTogether 80 = .ok (.aload_n 0, 1) := by decide +kernel
theorem dX8_drawTogether_81 : decode cX8_drawTogether 81 = .ok (.getfield 30, 3) := by decide +kernel
theorem dX8_drawTogether_84 : decode cX8_drawTogether 84 = .ok (.iload 4, 2) := by decide +kernel
theorem dX8_drawTogether_86 : decode cX8_drawTogether 86 = .ok (.iaload, 1) := by decide +kernel
theorem dX8_drawTogether_87 : decode cX8_drawTogether 87 = .ok (.bipush 12, 2) := by decide +kernel
theorem dX8_drawTogether_89 : decode cX8_drawTogether 89 = .ok (.imul, 1) := by decide +kernel
theorem dX8_drawTogether_90 : decode cX8_drawTogether 90 = .ok (.aload_n 0, 1) := by decide +kernel
theorem dX8_drawTogether_91 : decode cX8_drawTogether 91 = .ok (.getfield 30, 3) := by decide +kernel
theorem dX8_drawTogether_94 : decode cX8_drawTogether 94 = .ok (.iload 6, 2) := by decide +kernel
theorem dX8_drawTogether_96 : decode cX8_drawTogether 96 = .ok (.iaload, 1) := by decide +kernel
theorem dX8_drawTogether_97 : decode cX8_drawTogether 97 = .ok (.iadd, 1) := by decide +kernel
theorem dX8_drawTogether_98 : decode cX8_drawTogether 98 = .ok (.istore 7, 2) := by decide +kernel
theorem dX8_drawTogether_100 : decode cX8_drawTogether 100 = .ok (.aload_n 0, 1) := by decide +kernel
theorem dX8_drawTogether_101 : decode cX8_drawTogether 101 = .ok (.getfield 21, 3) := by decide +kernel
theorem dX8_drawTogether_104 : decode cX8_drawTogether 104 = .ok (.iload 7, 2) := by decide +kernel
theorem dX8_drawTogether_106 : decode cX8_drawTogether 106 = .ok (.aload_n 0, 1) := by decide +kernel
theorem dX8_drawTogether_107 : decode cX8_drawTogether 107 = .ok (.getfield 21, 3) := by decide +kernel
theorem dX8_drawTogether_110 : decode cX8_drawTogether 110 = .ok (.iload 7, 2) := by decide +kernel
theorem dX8_drawTogether_112 : decode cX8_drawTogether 112 = .ok (.iaload, 1) := by decide +kernel
theorem dX8_drawTogether_113 : decode cX8_drawTogether 113 = .ok (.aload_n 0, 1) := by decide +kernel
theorem dX8_drawTogether_114 : decode cX8_drawTogether 114 = .ok (.iload 4, 2) := by decide +kernel
theorem dX8_drawTogether_116 : decode cX8_drawTogether 116 = .ok (.iload 6, 2) := by decide +kernel
theorem dX8_drawTogether_118 : decode cX8_drawTogether 118 = .ok (.invokevirtual 85, 3) := by decide +kernel
theorem dX8_drawTogether_121 : decode cX8_drawTogether 121 = .ok (.iload 5, 2) := by decide +kernel
theorem dX8_drawTogether_123 : decode cX8_drawTogether 123 = .ok (.isub, 1) := by decide +kernel
theorem dX8_drawTogether_124 : decode cX8_drawTogether 124 = .ok (.invokestatic 88, 3) := by decide +kernel
theorem dX8_drawTogether_127 : decode cX8_drawTogether 127 = .ok (.iastore, 1) := by decide +kernel
theorem dX8_drawTogether_128 : decode cX8_drawTogether 128 = .ok (.iinc 6 1, 3) := by decide +kernel
theorem dX8_drawTogether_131 : decode cX8_drawTogether 131 = .ok (.goto (-74), 3) := by decide +kernel
theorem dX8_drawTogether_134 : decode cX8_drawTogether 134 = .ok (.iinc 4 1, 3) := by decide +kernel
theorem dX8_drawTogether_137 : decode cX8_drawTogether 137 = .ok (.goto (-125), 3) := by decide +kernel
theorem dX8_drawTogether_140 : decode cX8_drawTogether 140 = .ok (.aload_n 0, 1) := by decide +kernel
theorem dX8_drawTogether_141 : decode cX8_drawTogether 141 = .ok (.getfield 21, 3) := by decide +kernel
theorem dX8_drawTogether_144 : decode cX8_drawTogether 144 = .ok (.iconst 0, 1) := by decide +kernel
theorem dX8_drawTogether_145 : decode cX8_drawTogether 145 = .ok (.aload_n 0, 1) := by decide +kernel
theorem dX8_drawTogether_146 : decode cX8_drawTogether 146 = .ok (.getfield 18, 3) := by decide +kernel
theorem dX8_drawTogether_149 : decode cX8_drawTogether 149 = .ok (.iconst 0, 1) := by decide +kernel
theorem dX8_drawTogether_150 : decode cX8_drawTogether 150 = .ok (.iload_n 2, 1) := by decide +kernel
theorem dX8_drawTogether_151 : decode cX8_drawTogether 151 = .ok (.bipush 12, 2) := by decide +kernel
theorem dX8_drawTogether_153 : decode cX8_drawTogether 153 = .ok (.imul, 1) := by decide +kernel
theorem dX8_drawTogether_154 : decode cX8_drawTogether 154 = .ok (.invokestatic 61, 3) := by decide +kernel
theorem dX8_drawTogether_157 : decode cX8_drawTogether 157 = .ok (.return_, 1) := by decide +kernel
theorem b_X8_drawTogether_0 {x1 : Int} {x2 : Int} {x3 : Int} {σ : St} {Q : Res → St → Prop} (h : WP mJ7_fill_53178 0 [vR 50 0, vI 1000000, vU, vU] [] σ (CT mX8_drawTogether 9 [vR 9 0, vI x1, vI x2, vI x3, vU, vU, vU, vU] [] Q)) : WP mX8_drawTogether 0 [vR 9 0, vI x1, vI x2, vI x3, vU, vU, vU, vU] [] σ Q := by
  refine wp_aload_n dX8_drawTogether_0 rfl rfl ?_
  refine wp_getR dX8_drawTogether_1 fl_CustomValley_Trees_21 rfl rfl ?_
  refine wp_ldc (n := 1000000) dX8_drawTogether_4 ck_CustomValley_Trees_67 rfl ?_
  refine wp_invS (N := mJ7_fill_53178) [vR 50 0, vI 1000000] dX8_drawTogether_6 ml_CustomValley_Trees_37 mvJ7_fill_53178 rfl rfl rfl (Nat.le_of_ble_eq_true rfl) (Nat.le_of_ble_eq_true rfl) (by decide) (by decide) ?_
  exact h
theorem b_X8_drawTogether_9 {x1 : Int} {x2 : Int} {x3 : Int} {σ : St} {Q : Res → St → Prop} (h : WP mX8_drawTogether 12 [vR 9 0, vI x1, vI x2, vI x3, vI 0, vU, vU, vU] [] σ Q) : WP mX8_drawTogether 9 [vR 9 0, vI x1, vI x2, vI x3, vU, vU, vU, vU] [] σ Q := by
  refine wp_iconst dX8_drawTogether_9 rfl ?_
  refine wp_istore dX8_drawTogether_10 (by decide) rfl rfl ?_
  exact h
theorem b_X8_drawTogether_12 {x1 : Int} {x2 : Int} {x3 : Int} {x4 : Int} {σ : St} {Q : Res → St → Prop} (h : ((x1 ≤ x4) → ((in32 (x2 * 12)) ∧ ((0 ≤ x2 * 12 ∧ 0 + (x2 * 12) ≤ 144 ∧ 0 + (x2 * 12) ≤ 144) ∧ (Q (.inl none) (upR σ 49 0 0 ((x2 * 12).toNat) (fun k9 => σ 50 0 (0 + k9))))))) ∧ ((x4 < x1) → (((x4 = x3) → (WP mX8_drawTogether 57 [vR 9 0, vI x1, vI x2, vI x3, vI x4, vI 0, vI 0, vU] [] σ Q)) ∧ ((x4 ≠ x3) → ((0 ≤ x4 ∧ x4 < 12) ∧ ((((σ 51 0 x4.toNat) ≠ (-1)) → ((0 ≤ x4 ∧ x4 < 12) ∧ ((in32 (x4 * 12) ∧ in32 ((x4 * 12) + (σ 51 0 x4.toNat)) ∧ 0 ≤ (x4 * 12) + (σ 51 0 x4.toNat) ∧ ((x4 * 12) + (σ 51 0 x4.toNat)) < 144) ∧ (WP mX8_drawTogether 57 [vR 9 0, vI x1, vI x2, vI x3, vI x4, vI (σ 49 0 (((x4 * 12) + (σ 51 0 x4.toNat)).toNat)), vI 0, vU] [] σ Q)))) ∧ (((σ 51 0 x4.toNat) = (-1)) → (WP mX8_drawTogether 57 [vR 9 0, vI x1, vI x2, vI x3, vI x4, vI 0, vI 0, vU] [] σ Q)))))))) : WP mX8_drawTogether 12 [vR 9 0, vI x1, vI x2, vI x3, vI x4, vU, vU, vU] [] σ Q := by
  refine wp_iload dX8_drawTogether_12 rfl ?_
  refine wp_iload_n dX8_drawTogether_14 rfl rfl ?_
  refine wp_icmp_ge (tgt := 140) dX8_drawTogether_15 (by decide) (fun hc => ?_) (fun hc => ?_)
  · replace h := h.1 hc
    refine wp_aload_n dX8_drawTogether_140 rfl rfl ?_
    refine wp_getR dX8_drawTogether_141 fl_CustomValley_Trees_21 rfl rfl ?_
    refine wp_iconst dX8_drawTogether_144 rfl ?_
    refine wp_aload_n dX8_drawTogether_145 rfl rfl ?_
    refine wp_getR dX8_drawTogether_146 fl_CustomValley_Trees_18 rfl rfl ?_
    refine wp_iconst dX8_drawTogether_149 rfl ?_
    refine wp_iload_n dX8_drawTogether_150 rfl rfl ?_
    refine wp_bipush dX8_drawTogether_151 rfl ?_
    have s2 := h.1
    replace h := h.2
    refine wp_imul dX8_drawTogether_153 ?_ (h1 := s2.1) (h2 := s2.2)
    have s1 := h.1
    replace h := h.2
    refine wp_copy dX8_drawTogether_154 cp_CustomValley_Trees_61 cp_nat cp_stat cp_ini rfl rfl rfl rfl (by decide) (by decide) (Nat.le_of_ble_eq_true rfl) (by decide) (by decide) (by decide) s1.1 s1.2.1 s1.2.2 ?_
    exact wp_ret dX8_drawTogether_157 rfl h
  · replace h := h.2 hc
    refine wp_iload dX8_drawTogether_18 rfl ?_
    refine wp_iload_n dX8_drawTogether_20 rfl rfl ?_
    refine wp_icmp_eq (tgt := 35) dX8_drawTogether_21 (by decide) (fun hc => ?_) (fun hc => ?_)
    · replace h := h.1 hc
      refine wp_iconst dX8_drawTogether_35 rfl ?_
      refine wp_goto (tgt := 52) dX8_drawTogether_36 (by decide) ?_
      refine wp_istore dX8_drawTogether_52 (by decide) rfl rfl ?_
      refine wp_iconst dX8_drawTogether_54 rfl ?_
      refine wp_istore dX8_drawTogether_55 (by decide) rfl rfl ?_
      exact h
    · replace h := h.2 hc
      refine wp_aload_n dX8_drawTogether_24 rfl rfl ?_
      refine wp_getR dX8_drawTogether_25 fl_CustomValley_Trees_24 rfl rfl ?_
      refine wp_iload dX8_drawTogether_28 rfl ?_
      have s5 := h.1
      replace h := h.2
      refine wp_iaload dX8_drawTogether_30 rfl rfl s5.1 s5.2 ?_
      refine wp_iconst dX8_drawTogether_31 rfl ?_
      refine wp_icmp_ne (tgt := 39) dX8_drawTogether_32 (by decide) (fun hc => ?_) (fun hc => ?_)
      · replace h := h.1 hc
        refine wp_aload_n dX8_drawTogether_39 rfl rfl ?_
        refine wp_iload dX8_drawTogether_40 rfl ?_
        refine wp_aload_n dX8_drawTogether_42 rfl rfl ?_
        refine wp_getR dX8_drawTogether_43 fl_CustomValley_Trees_24 rfl rfl ?_
        refine wp_iload dX8_drawTogether_46 rfl ?_
        have s4 := h.1
        replace h := h.2
        refine wp_iaload dX8_drawTogether_48 rfl rfl s4.1 s4.2 ?_
        have s3 := h.1
        replace h := h.2
        refine wp_invV (N := mX8_edge) [vI x4, vI (σ 51 0 x4.toNat)] dX8_drawTogether_49 ml_CustomValley_Trees_85 mvX8_edge rfl rfl rfl rfl rfl (Nat.le_of_ble_eq_true rfl) (Nat.le_of_ble_eq_true rfl) (by decide) (by decide) (by decide) ?_
        refine pb_X8_edge s3 ?_
        show WP mX8_drawTogether 52 [vR 9 0, vI x1, vI x2, vI x3, vI x4, vU, vU, vU] [vI (σ 49 0 (((x4 * 12) + (σ 51 0 x4.toNat)).toNat))] σ Q
        refine wp_istore dX8_drawTogether_52 (by decide) rfl rfl ?_
        refine wp_iconst dX8_drawTogether_54 rfl ?_
        refine wp_istore dX8_drawTogether_55 (by decide) rfl rfl ?_
        exact h
      · replace h := h.2 hc
        refine wp_iconst dX8_drawTogether_35 rfl ?_
        refine wp_goto (tgt := 52) dX8_drawTogether_36 (by decide) ?_
        refine wp_istore dX8_drawTogether_52 (by decide) rfl rfl ?_
        refine wp_iconst dX8_drawTogether_54 rfl ?_
        refine wp_istore dX8_drawTogether_55 (by decide) rfl rfl ?_
        exact h
theorem b_X8_drawTogether_57 {x1 : Int} {x2 : Int} {x3 : Int} {x4 : Int} {x5 : Int} {x6 : Int} {σ : St} {Q : Res → St → Prop} (h : ((x1 ≤ x6) → ((in32 (x4 + 1)) ∧ (WP mX8_drawTogether 12 [vR 9 0, vI x1, vI x2, vI x3, vI (x4 + 1), vU, vU, vU] [] σ Q))) ∧ ((x6 < x1) → ((0 ≤ x4 ∧ x4 < 12) ∧ ((0 ≤ x6 ∧ x6 < 12) ∧ ((((σ 53 0 x4.toNat) = (σ 53 0 x6.toNat)) → ((in32 (x6 + 1)) ∧ (WP mX8_drawTogether 57 [vR 9 0, vI x1, vI x2, vI x3, vI x4, vI x5, vI (x6 + 1), vU] [] σ Q))) ∧ (((σ 53 0 x4.toNat) ≠ (σ 53 0 x6.toNat)) → ((0 ≤ x4 ∧ x4 < 12) ∧ ((in32 ((σ 53 0 x4.toNat) * 12)) ∧ ((0 ≤ x6 ∧ x6 < 12) ∧ ((in32 (((σ 53 0 x4.toNat) * 12) + (σ 53 0 x6.toNat))) ∧ ((0 ≤ ((σ 53 0 x4.toNat) * 12) + (σ 53 0 x6.toNat) ∧ (((σ 53 0 x4.toNat) * 12) + (σ 53 0 x6.toNat)) < 144) ∧ ((in32 (x4 * 12) ∧ in32 ((x4 * 12) + x6) ∧ 0 ≤ (x4 * 12) + x6 ∧ ((x4 * 12) + x6) < 144) ∧ ((in32 ((σ 49 0 (((x4 * 12) + x6).toNat)) - x5)) ∧ ((0 ≤ ((σ 53 0 x4.toNat) * 12) + (σ 53 0 x6.toNat) ∧ (((σ 53 0 x4.toNat) * 12) + (σ 53 0 x6.toNat)) < 144) ∧ ((in32 (x6 + 1)) ∧ (WP mX8_drawTogether 57 [vR 9 0, vI x1, vI x2, vI x3, vI x4, vI x5, vI (x6 + 1), vU] [] (up σ 50 0 ((((σ 53 0 x4.toNat) * 12) + (σ 53 0 x6.toNat)).toNat) (min (σ 50 0 ((((σ 53 0 x4.toNat) * 12) + (σ 53 0 x6.toNat)).toNat)) ((σ 49 0 (((x4 * 12) + x6).toNat)) - x5))) Q)))))))))))))))) : WP mX8_drawTogether 57 [vR 9 0, vI x1, vI x2, vI x3, vI x4, vI x5, vI x6, vU] [] σ Q := by
  refine wp_iload dX8_drawTogether_57 rfl ?_
  refine wp_iload_n dX8_drawTogether_59 rfl rfl ?_
  refine wp_icmp_ge (tgt := 134) dX8_drawTogether_60 (by decide) (fun hc => ?_) (fun hc => ?_)
  · replace h := h.1 hc
    have s1 := h.1
    replace h := h.2
    refine wp_iinc dX8_drawTogether_134 rfl (by decide) rfl rfl ?_ (h1 := s1.1) (h2 := s1.2)
    refine wp_goto (tgt := 12) dX8_drawTogether_137 (by decide) ?_
    exact wp_drop (als' := [vR 9 0, vI x1, vI x2, vI x3, vI (x4 + 1), vU, vU, vU]) (lle_c (Or.inl rfl) (lle_c (Or.inl rfl) (lle_c (Or.inl rfl) (lle_c (Or.inl rfl) (lle_c (Or.inl rfl) (lle_c (Or.inr rfl) (lle_c (Or.inr rfl) (lle_c (Or.inl rfl) lle_n)))))))) h
  · replace h := h.2 hc
    refine wp_aload_n dX8_drawTogether_63 rfl rfl ?_
    refine wp_getR dX8_drawTogether_64 fl_CustomValley_Trees_30 rfl rfl ?_
    refine wp_iload dX8_drawTogether_67 rfl ?_
    have s13 := h.1
    replace h := h.2
    refine wp_iaload dX8_drawTogether_69 rfl rfl s13.1 s13.2 ?_
    refine wp_aload_n dX8_drawTogether_70 rfl rfl ?_
    refine wp_getR dX8_drawTogether_71 fl_CustomValley_Trees_30 rfl rfl ?_
    refine wp_iload dX8_drawTogether_74 rfl ?_
    have s12 := h.1
    replace h := h.2
    refine wp_iaload dX8_drawTogether_76 rfl rfl s12.1 s12.2 ?_
    refine wp_icmp_eq (tgt := 128) dX8_drawTogether_77 (by decide) (fun hc => ?_) (fun hc => ?_)
    · replace h := h.1 hc
      have s2 := h.1
      replace h := h.2
      refine wp_iinc dX8_drawTogether_128 rfl (by decide) rfl rfl ?_ (h1 := s2.1) (h2 := s2.2)
      refine wp_goto (tgt := 57) dX8_drawTogether_131 (by decide) ?_
      exact h
    · replace h := h.2 hc
      refine wp_aload_n dX8_drawTogether_80 rfl rfl ?_
      refine wp_getR dX8_drawTogether_81 fl_CustomValley_Trees_30 rfl rfl ?_
      refine wp_iload dX8_drawTogether_84 rfl ?_
      have s11 := h.1
      replace h := h.2
      refine wp_iaload dX8_drawTogether_86 rfl rfl s11.1 s11.2 ?_
      refine wp_bipush dX8_drawTogether_87 rfl ?_
      have s10 := h.1
      replace h := h.2
      refine wp_imul dX8_drawTogether_89 ?_ (h1 := s10.1) (h2 := s10.2)
      refine wp_aload_n dX8_drawTogether_90 rfl rfl ?_
      refine wp_getR dX8_drawTogether_91 fl_CustomValley_Trees_30 rfl rfl ?_
      refine wp_iload dX8_drawTogether_94 rfl ?_
      have s9 := h.1
      replace h := h.2
      refine wp_iaload dX8_drawTogether_96 rfl rfl s9.1 s9.2 ?_
      have s8 := h.1
      replace h := h.2
      refine wp_iadd dX8_drawTogether_97 ?_ (h1 := s8.1) (h2 := s8.2)
      refine wp_istore dX8_drawTogether_98 (by decide) rfl rfl ?_
      refine wp_aload_n dX8_drawTogether_100 rfl rfl ?_
      refine wp_getR dX8_drawTogether_101 fl_CustomValley_Trees_21 rfl rfl ?_
      refine wp_iload dX8_drawTogether_104 rfl ?_
      refine wp_aload_n dX8_drawTogether_106 rfl rfl ?_
      refine wp_getR dX8_drawTogether_107 fl_CustomValley_Trees_21 rfl rfl ?_
      refine wp_iload dX8_drawTogether_110 rfl ?_
      have s7 := h.1
      replace h := h.2
      refine wp_iaload dX8_drawTogether_112 rfl rfl s7.1 s7.2 ?_
      refine wp_aload_n dX8_drawTogether_113 rfl rfl ?_
      refine wp_iload dX8_drawTogether_114 rfl ?_
      refine wp_iload dX8_drawTogether_116 rfl ?_
      have s6 := h.1
      replace h := h.2
      refine wp_invV (N := mX8_edge) [vI x4, vI x6] dX8_drawTogether_118 ml_CustomValley_Trees_85 mvX8_edge rfl rfl rfl rfl rfl (Nat.le_of_ble_eq_true rfl) (Nat.le_of_ble_eq_true rfl) (by decide) (by decide) (by decide) ?_
      refine pb_X8_edge s6 ?_
      show WP mX8_drawTogether 121 [vR 9 0, vI x1, vI x2, vI x3, vI x4, vI x5, vI x6, vI (((σ 53 0 x4.toNat) * 12) + (σ 53 0 x6.toNat))] [vI (σ 49 0 (((x4 * 12) + x6).toNat)), vI (σ 50 0 ((((σ 53 0 x4.toNat) * 12) + (σ 53 0 x6.toNat)).toNat)), vI (((σ 53 0 x4.toNat) * 12) + (σ 53 0 x6.toNat)), vR 50 0] σ Q
      refine wp_iload dX8_drawTogether_121 rfl ?_
      have s5 := h.1
      replace h := h.2
      refine wp_isub dX8_drawTogether_123 ?_ (h1 := s5.1) (h2 := s5.2)
      refine wp_mmin dX8_drawTogether_124 mm_CustomValley_Trees_88 (by decide) (Nat.le_of_ble_eq_true rfl) ?_
      have s4 := h.1
      replace h := h.2
      refine wp_iastore dX8_drawTogether_127 rfl rfl s4.1 s4.2 ?_
      have s3 := h.1
      replace h := h.2
      refine wp_iinc dX8_drawTogether_128 rfl (by decide) rfl rfl ?_ (h1 := s3.1) (h2 := s3.2)
      refine wp_goto (tgt := 57) dX8_drawTogether_131 (by decide) ?_
      exact wp_drop (als' := [vR 9 0, vI x1, vI x2, vI x3, vI x4, vI x5, vI (x6 + 1), vU]) (lle_c (Or.inl rfl) (lle_c (Or.inl rfl) (lle_c (Or.inl rfl) (lle_c (Or.inl rfl) (lle_c (Or.inl rfl) (lle_c (Or.inl rfl) (lle_c (Or.inl rfl) (lle_c (Or.inr rfl) lle_n)))))))) h
theorem dX8_nameRings_0 : decode cX8_nameRings 0 = .ok (.aload_n 0, 1) := by decide +kernel
theorem dX8_nameRings_1 : decode cX8_nameRings 1 = .ok (.getfield 27, 3) := by decide +kernel
theorem dX8_nameRings_4 : decode cX8_nameRings 4 = .ok (.iconst (-1), 1) := by decide +kernel
theorem dX8_nameRings_5 : decode cX8_nameRings 5 = .ok (.invokestatic 37, 3) := by decide +kernel
theorem dX8_nameRings_8 : decode cX8_nameRings 8 = .ok (.aload_n 0, 1) := by decide +kernel
theorem dX8_nameRings_9 : decode cX8_nameRings 9 = .ok (.getfield 30, 3) := by decide +kernel
theorem dX8_nameRings_12 : decode cX8_nameRings 12 = .ok (.iconst (-1), 1) := by decide +kernel
theorem dX8_nameRings_13 : decode cX8_nameRings 13 = .ok (.invokestatic 37, 3) := by decide +kernel
theorem dX8_nameRings_16 : decode cX8_nameRings 16 = .ok (.iconst 0, 1) := by decide +kernel
theorem dX8_nameRings_17 : decode cX8_nameRings 17 = .ok (.istore_n 3, 1) := by decide +kernel
theorem dX8_nameRings_18 : decode cX8_nameRings 18 = .ok (.iconst 0, 1) := by decide +kernel
theorem dX8_nameRings_19 : decode cX8_nameRings 19 = .ok (.istore 4, 2) := by decide +kernel
theorem dX8_nameRings_21 : decode cX8_nameRings 21 = .ok (.iload 4, 2) := by decide +kernel
theorem dX8_nameRings_23 : decode cX8_nameRings 23 = .ok (.iload_n 1, 1) := by decide +kernel
theorem dX8_nameRings_24 : decode cX8_nameRings 24 = .ok (.if_icmp .ge 138, 3) := by decide +kernel
theorem dX8_nameRings_27 : decode cX8_nameRings 27 = .ok (.iload 4, 2) := by decide +kernel
theorem dX8_nameRings_29 : decode cX8_nameRings 29 = .ok (.istore 5, 2) := by decide +kernel
theorem dX8_nameRings_31 : decode cX8_nameRings 31 = .ok (.iconst 0, 1) := by decide +kernel
theorem dX8_nameRings_32 : decode cX8_nameRings 32 = .ok (.istore 6, 2) := by decide +kernel
theorem dX8_nameRings_34 : decode cX8_nameRings 34 = .ok (.iload 6, 2) := by decide +kernel
theorem dX8_nameRings_36 : decode cX8_nameRings 36 = .ok (.iload_n 1, 1) := by decide +kernel
theorem dX8_nameRings_37 : decode cX8_nameRings 37 = .ok (.if_icmp .ge 44, 3) := by decide +kernel
theorem dX8_nameRings_40 : decode cX8_nameRings 40 = .ok (.iload 5, 2) := by decide +kernel
theorem dX8_nameRings_42 : decode cX8_nameRings 42 = .ok (.iload_n 2, 1) := by decide +kernel
theorem dX8_nameRings_43 : decode cX8_nameRings 43 = .ok (.if_icmp .eq 38, 3) := by decide +kernel
theorem dX8_nameRings_46 : decode cX8_nameRings 46 = .ok (.aload_n 0, 1) := by decide +kernel
theorem dX8_nameRings_47 : decode cX8_nameRings 47 = .ok (.getfield 27, 3) := by decide +kernel
theorem dX8_nameRings_50 : decode cX8_nameRings 50 = .ok (.iload 5, 2) := by decide +kernel
theorem dX8_nameRings_52 : decode cX8_nameRings 52 = .ok (.iaload, 1) := by decide +kernel
theorem dX8_nameRings_53 : decode cX8_nameRings 53 = .ok (.iconst (-1), 1) := by decide +kernel
theorem dX8_nameRings_54 : decode cX8_nameRings 54 = .ok (.if_icmp .ne 27, 3) := by decide +kernel
theorem dX8_nameRings_57 : decode cX8_nameRings 57 = .ok (.aload_n 0, 1) := by decide +kernel
theorem dX8_nameRings_58 : decode cX8_nameRings 58 = .ok (.getfield 27, 3) := by decide +kernel
theorem dX8_nameRings_61 : decode cX8_nameRings 61 = .ok (.iload 5, 2) := by decide +kernel
theorem dX8_nameRings_63 : decode cX8_nameRings 63 = .ok (.iload 4, 2) := by decide +kernel
theorem dX8_nameRings_65 : decode cX8_nameRings 65 = .ok (.iastore, 1) := by decide +kernel
theorem dX8_nameRings_66 : decode cX8_nameRings 66 = .ok (.aload_n 0, 1) := by decide +kernel
theorem dX8_nameRings_67 : decode cX8_nameRings 67 = .ok (.getfield 24, 3) := by decide +kernel
theorem dX8_nameRings_70 : decode cX8_nameRings 70 = .ok (.iload 5, 2) := by decide +kernel
theorem dX8_nameRings_72 : decode cX8_nameRings 72 = .ok (.iaload, 1) := by decide +kernel
theorem dX8_nameRings_73 : decode cX8_nameRings 73 = .ok (.istore 5, 2) := by decide +kernel
theorem dX8_nameRings_75 : decode cX8_nameRings 75 = .ok (.iinc 6 1, 3) := by decide +kernel
theorem dX8_nameRings_78 : decode cX8_nameRings 78 = .ok (.goto (-44), 3) := by decide +kernel
theorem dX8_nameRings_81 : decode cX8_nameRings 81 = .ok (.iload 5, 2) := by decide +kernel
theorem dX8_nameRings_83 : decode cX8_nameRings 83 = .ok (.iload_n 2, 1) := by decide +kernel
theorem dX8_nameRings_84 : decode cX8_nameRings 84 = .ok (.if_icmp .eq 72, 3) := by decide +kernel
theorem dX8_nameRings_87 : decode cX8_nameRings 87 = .ok (.aload_n 0, 1) := by decide +kernel
theorem dX8_nameRings_88 : decode cX8_nameRings 88 = .ok (.getfield 27, 3) := by decide +kernel
theorem dX8_nameRings_91 : decode cX8_nameRings 91 = .ok (.iload 5, 2) := by decide +kernel
theorem dX8_nameRings_93 : decode cX8_nameRings 93 = .ok (.iaload, 1) := by decide +kernel
theorem dX8_nameRings_94 : decode cX8_nameRings 94 = .ok (.iload 4, 2) := by decide +kernel
theorem dX8_nameRings_96 : decode cX8_nameRings 96 = .ok (.if_icmp .ne 60, 3) := by decide +kernel
theorem dX8_nameRings_99 : decode cX8_nameRings 99 = .ok (.aload_n 0, 1) := by decide +kernel
theorem dX8_nameRings_100 : decode cX8_nameRings 100 = .ok (.getfield 30, 3) := by decide +kernel
theorem dX8_nameRings_103 : decode cX8_nameRings 103 = .ok (.iload 5, 2) := by decide +kernel
theorem dX8_nameRings_105 : decode cX8_nameRings 105 = .ok (.iaload, 1) := by decide +kernel
theorem dX8_nameRings_106 : decode cX8_nameRings 106 = .ok (.iconst (-1), 1) := by decide +kernel
theorem dX8_nameRings_107 : decode cX8_nameRings 107 = .ok (.if_icmp .ne 49, 3) := by decide +kernel
theorem dX8_nameRings_110 : decode cX8_nameRings 110 = .ok (.iconst 0, 1) := by decide +kernel
theorem dX8_nameRings_111 : decode cX8_nameRings 111 = .ok (.istore 6, 2) := by decide +kernel
theorem dX8_nameRings_113 : decode cX8_nameRings 113 = .ok (.iload 6, 2) := by decide +kernel
theorem dX8_nameRings_115 : decode cX8_nameRings 115 = .ok (.iload_n 1, 1) := by decide +kernel
theorem dX8_nameRings_116 : decode cX8_nameRings 116 = .ok (.if_icmp .ge 37, 3) := by decide +kernel
theorem dX8_nameRings_119 : decode cX8_nameRings 119 = .ok (.aload_n 0, 1) := by decide +kernel
theorem dX8_nameRings_120 : decode cX8_nameRings 120 = .ok (.getfield 30, 3) := by decide +kernel
theorem dX8_nameRings_123 : decode cX8_nameRings 123 = .ok (.iload 5, 2) := by decide +kernel
theorem dX8_nameRings_125 : decode cX8_nameRings 125 = .ok (.iaload, 1) := by decide +kernel
theorem dX8_nameRings_126 : decode cX8_nameRings 126 = .ok (.iconst (-1), 1) := by decide +kernel
theorem dX8_nameRings_127 : decode cX8_nameRings 127 = .ok (.if_icmp .ne 26, 3) := by decide +kernel
theorem dX8_nameRings_130 : decode cX8_nameRings 130 = .ok (.aload_n 0, 1) := by decide +kernel
theorem dX8_nameRings_131 : decode cX8_nameRings 131 = .ok (.getfield 30, 3) := by decide +kernel
theorem dX8_nameRings_134 : decode cX8_nameRings 134 = .ok (.iload 5, 2) := by decide +kernel
theorem dX8_nameRings_136 : decode cX8_nameRings 136 = .ok (.iload_n 3, 1) := by decide +kernel
theorem dX8_nameRings_137 : decode cX8_nameRings 137 = .ok (.iastore, 1) := by decide +kernel
theorem dX8_nameRings_138 : decode cX8_nameRings 138 = .ok (.aload_n 0, 1) := by decide +kernel
theorem dX8_nameRings_139 : decode cX8_nameRings 139 = .ok (.getfield 24, 3) := by decide +kernel
theorem dX8_nameRings_142 : decode cX8_nameRings 142 = .ok (.iload 5, 2) := by decide +kernel
theorem dX8_nameRings_144 : decode cX8_nameRings 144 = .ok (.iaload, 1) := by decide +kernel
theorem dX8_nameRings_145 : decode cX8_nameRings 145 = .ok (.istore 5, 2) := by decide +kernel
theorem dX8_nameRings_147 : decode cX8_nameRings 147 = .ok (.iinc 6 1, 3) := by decide +kernel
theorem dX8_nameRings_150 : decode cX8_nameRings 150 = .ok (.goto (-37), 3) := by decide +kernel
theorem dX8_nameRings_153 : decode cX8_nameRings 153 = .ok (.iinc 3 1, 3) := by decide +kernel
theorem dX8_nameRings_156 : decode cX8_nameRings 156 = .ok (.iinc 4 1, 3) := by decide +kernel
theorem dX8_nameRings_159 : decode cX8_nameRings 159 = .ok (.goto (-138), 3) := by decide +kernel
theorem dX8_nameRings_162 : decode cX8_nameRings 162 = .ok (.iload_n 3, 1) := by decide +kernel
theorem dX8_nameRings_163 : decode cX8_nameRings 163 = .ok (.ireturn, 1) := by decide +kernel
theorem b_X8_nameRings_0 {x1 : Int} {x2 : Int} {σ : St} {Q : Res → St → Prop} (h : WP mJ7_fill_53178 0 [vR 52 0, vI (-1), vU, vU] [] σ (CT mX8_nameRings 8 [vR 9 0, vI x1, vI x2, vU, vU, vU, vU] [] Q)) : WP mX8_nameRings 0 [vR 9 0, vI x1, vI x2, vU, vU, vU, vU] [] σ Q := by
  refine wp_aload_n dX8_nameRings_0 rfl rfl ?_
  refine wp_getR dX8_nameRings_1 fl_CustomValley_Trees_27 rfl rfl ?_
  refine wp_iconst dX8_nameRings_4 rfl ?_
  refine wp_invS (N := mJ7_fill_53178) [vR 52 0, vI (-1)] dX8_nameRings_5 ml_CustomValley_Trees_37 mvJ7_fill_53178 rfl rfl rfl (Nat.le_of_ble_eq_true rfl) (Nat.le_of_ble_eq_true rfl) (by decide) (by decide) ?_
  exact h
theorem b_X8_nameRings_8 {x1 : Int} {x2 : Int} {σ : St} {Q : Res → St → Prop} (h : WP mJ7_fill_53178 0 [vR 53 0, vI (-1), vU, vU] [] σ (CT mX8_nameRings 16 [vR 9 0, vI x1, vI x2, vU, vU, vU, vU] [] Q)) : WP mX8_nameRings 8 [vR 9 0, vI x1, vI x2, vU, vU, vU, vU] [] σ Q := by
  refine wp_aload_n dX8_nameRings_8 rfl rfl ?_
  refine wp_getR dX8_nameRings_9 fl_CustomValley_Trees_30 rfl rfl ?_
  refine wp_iconst dX8_nameRings_12 rfl ?_
  refine wp_invS (N := mJ7_fill_53178) [vR 53 0, vI (-1)] dX8_nameRings_13 ml_CustomValley_Trees_37 mvJ7_fill_53178 rfl rfl rfl (Nat.le_of_ble_eq_true rfl) (Nat.le_of_ble_eq_true rfl) (by decide) (by decide) ?_
  exact h
theorem b_X8_nameRings_16 {x1 : Int} {x2 : Int} {σ : St} {Q : Res → St → Prop} (h : WP mX8_nameRings 21 [vR 9 0, vI x1, vI x2, vI 0, vI 0, vU, vU] [] σ Q) : WP mX8_nameRings 16 [vR 9 0, vI x1, vI x2, vU, vU, vU, vU] [] σ Q := by
  refine wp_iconst dX8_nameRings_16 rfl ?_
  refine wp_istore_n dX8_nameRings_17 rfl (by decide) rfl rfl ?_
  refine wp_iconst dX8_nameRings_18 rfl ?_
  refine wp_istore dX8_nameRings_19 (by decide) rfl rfl ?_
  exact h
theorem b_X8_nameRings_21 {x1 : Int} {x2 : Int} {x3 : Int} {x4 : Int} {σ : St} {Q : Res → St → Prop} (h : ((x1 ≤ x4) → (Q (.inl (some (vI x3))) σ)) ∧ ((x4 < x1) → (WP mX8_nameRings 34 [vR 9 0, vI x1, vI x2, vI x3, vI x4, vI x4, vI 0] [] σ Q))) : WP mX8_nameRings 21 [vR 9 0, vI x1, vI x2, vI x3, vI x4, vU, vU] [] σ Q := by
  refine wp_iload dX8_nameRings_21 rfl ?_
  refine wp_iload_n dX8_nameRings_23 rfl rfl ?_
  refine wp_icmp_ge (tgt := 162) dX8_nameRings_24 (by decide) (fun hc => ?_) (fun hc => ?_)
  · replace h := h.1 hc
    refine wp_iload_n dX8_nameRings_162 rfl rfl ?_
    exact wp_iret dX8_nameRings_163 rfl h
  · replace h := h.2 hc
    refine wp_iload dX8_nameRings_27 rfl ?_
    refine wp_istore dX8_nameRings_29 (by decide) rfl rfl ?_
    refine wp_iconst dX8_nameRings_31 rfl ?_
    refine wp_istore dX8_nameRings_32 (by decide) rfl rfl ?_
    exact h
theorem b_X8_nameRings_34 {x1 : Int} {x2 : Int} {x3 : Int} {x4 : Int} {x5 : Int} {x6 : Int} {σ : St} {Q : Res → St → Prop} (h : ((x1 ≤ x6) → (WP mX8_nameRings 81 [vR 9 0, vI x1, vI x2, vI x3, vI x4, vI x5, vU] [] σ Q)) ∧ ((x6 < x1) → (((x5 = x2) → (WP mX8_nameRings 81 [vR 9 0, vI x1, vI x2, vI x3, vI x4, vI x5, vU] [] σ Q)) ∧ ((x5 ≠ x2) → ((0 ≤ x5 ∧ x5 < 12) ∧ ((((σ 52 0 x5.toNat) ≠ (-1)) → (WP mX8_nameRings 81 [vR 9 0, vI x1, vI x2, vI x3, vI x4, vI x5, vU] [] σ Q)) ∧ (((σ 52 0 x5.toNat) = (-1)) → ((0 ≤ x5 ∧ x5 < 12) ∧ ((0 ≤ x5 ∧ x5 < 12) ∧ ((in32 (x6 + 1)) ∧ (WP mX8_nameRings 34 [vR 9 0, vI x1, vI x2, vI x3, vI x4, vI (σ 51 0 x5.toNat), vI (x6 + 1)] [] (up σ 52 0 x5.toNat x4) Q))))))))))) : WP mX8_nameRings 34 [vR 9 0, vI x1, vI x2, vI x3, vI x4, vI x5, vI x6] [] σ Q := by
  refine wp_iload dX8_nameRings_34 rfl ?_
  refine wp_iload_n dX8_nameRings_36 rfl rfl ?_
  refine wp_icmp_ge (tgt := 81) dX8_nameRings_37 (by decide) (fun hc => ?_) (fun hc => ?_)
  · replace h := h.1 hc
    exact wp_drop (als' := [vR 9 0, vI x1, vI x2, vI x3, vI x4, vI x5, vU]) (lle_c (Or.inl rfl) (lle_c (Or.inl rfl) (lle_c (Or.inl rfl) (lle_c (Or.inl rfl) (lle_c (Or.inl rfl) (lle_c (Or.inl rfl) (lle_c (Or.inr rfl) lle_n))))))) h
  · replace h := h.2 hc
    refine wp_iload dX8_nameRings_40 rfl ?_
    refine wp_iload_n dX8_nameRings_42 rfl rfl ?_
    refine wp_icmp_eq (tgt := 81) dX8_nameRings_43 (by decide) (fun hc => ?_) (fun hc => ?_)
    · replace h := h.1 hc
      exact wp_drop (als' := [vR 9 0, vI x1, vI x2, vI x3, vI x4, vI x5, vU]) (lle_c (Or.inl rfl) (lle_c (Or.inl rfl) (lle_c (Or.inl rfl) (lle_c (Or.inl rfl) (lle_c (Or.inl rfl) (lle_c (Or.inl rfl) (lle_c (Or.inr rfl) lle_n))))))) h
    · replace h := h.2 hc
      refine wp_aload_n dX8_nameRings_46 rfl rfl ?_
      refine wp_getR dX8_nameRings_47 fl_CustomValley_Trees_27 rfl rfl ?_
      refine wp_iload dX8_nameRings_50 rfl ?_
      have s4 := h.1
      replace h := h.2
      refine wp_iaload dX8_nameRings_52 rfl rfl s4.1 s4.2 ?_
      refine wp_iconst dX8_nameRings_53 rfl ?_
      refine wp_icmp_ne (tgt := 81) dX8_nameRings_54 (by decide) (fun hc => ?_) (fun hc => ?_)
      · replace h := h.1 hc
        exact wp_drop (als' := [vR 9 0, vI x1, vI x2, vI x3, vI x4, vI x5, vU]) (lle_c (Or.inl rfl) (lle_c (Or.inl rfl) (lle_c (Or.inl rfl) (lle_c (Or.inl rfl) (lle_c (Or.inl rfl) (lle_c (Or.inl rfl) (lle_c (Or.inr rfl) lle_n))))))) h
      · replace h := h.2 hc
        refine wp_aload_n dX8_nameRings_57 rfl rfl ?_
        refine wp_getR dX8_nameRings_58 fl_CustomValley_Trees_27 rfl rfl ?_
        refine wp_iload dX8_nameRings_61 rfl ?_
        refine wp_iload dX8_nameRings_63 rfl ?_
        have s3 := h.1
        replace h := h.2
        refine wp_iastore dX8_nameRings_65 rfl rfl s3.1 s3.2 ?_
        refine wp_aload_n dX8_nameRings_66 rfl rfl ?_
        refine wp_getR dX8_nameRings_67 fl_CustomValley_Trees_24 rfl rfl ?_
        refine wp_iload dX8_nameRings_70 rfl ?_
        have s2 := h.1
        replace h := h.2
        refine wp_iaload dX8_nameRings_72 rfl rfl s2.1 s2.2 ?_
        rw [show (up σ 52 0 x5.toNat x4) 51 0 x5.toNat = σ 51 0 x5.toNat from by simp [up]]
        refine wp_istore dX8_nameRings_73 (by decide) rfl rfl ?_
        have s1 := h.1
        replace h := h.2
        refine wp_iinc dX8_nameRings_75 rfl (by decide) rfl rfl ?_ (h1 := s1.1) (h2 := s1.2)
        refine wp_goto (tgt := 34) dX8_nameRings_78 (by decide) ?_
        exact h
theorem b_X8_nameRings_81 {x1 : Int} {x2 : Int} {x3 : Int} {x4 : Int} {x5 : Int} {σ : St} {Q : Res → St → Prop} (h : ((x5 = x2) → ((in32 (x4 + 1)) ∧ (WP mX8_nameRings 21 [vR 9 0, vI x1, vI x2, vI x3, vI (x4 + 1), vU, vU] [] σ Q))) ∧ ((x5 ≠ x2) → ((0 ≤ x5 ∧ x5 < 12) ∧ ((((σ 52 0 x5.toNat) ≠ x4) → ((in32 (x4 + 1)) ∧ (WP mX8_nameRings 21 [vR 9 0, vI x1, vI x2, vI x3, vI (x4 + 1), vU, vU] [] σ Q))) ∧ (((σ 52 0 x5.toNat) = x4) → ((0 ≤ x5 ∧ x5 < 12) ∧ ((((σ 53 0 x5.toNat) ≠ (-1)) → ((in32 (x4 + 1)) ∧ (WP mX8_nameRings 21 [vR 9 0, vI x1, vI x2, vI x3, vI (x4 + 1), vU, vU] [] σ Q))) ∧ (((σ 53 0 x5.toNat) = (-1)) → (WP mX8_nameRings 113 [vR 9 0, vI x1, vI x2, vI x3, vI x4, vI x5, vI 0] [] σ Q))))))))) : WP mX8_nameRings 81 [vR 9 0, vI x1, vI x2, vI x3, vI x4, vI x5, vU] [] σ Q := by
  refine wp_iload dX8_nameRings_81 rfl ?_
  refine wp_iload_n dX8_nameRings_83 rfl rfl ?_
  refine wp_icmp_eq (tgt := 156) dX8_nameRings_84 (by decide) (fun hc => ?_) (fun hc => ?_)
  · replace h := h.1 hc
    have s1 := h.1
    replace h := h.2
    refine wp_iinc dX8_nameRings_156 rfl (by decide) rfl rfl ?_ (h1 := s1.1) (h2 := s1.2)
    refine wp_goto (tgt := 21) dX8_nameRings_159 (by decide) ?_
    exact wp_drop (als' := [vR 9 0, vI x1, vI x2, vI x3, vI (x4 + 1), vU, vU]) (lle_c (Or.inl rfl) (lle_c (Or.inl rfl) (lle_c (Or.inl rfl) (lle_c (Or.inl rfl) (lle_c (Or.inl rfl) (lle_c (Or.inr rfl) (lle_c (Or.inl rfl) lle_n))))))) h
  · replace h := h.2 hc
    refine wp_aload_n dX8_nameRings_87 rfl rfl ?_
    refine wp_getR dX8_nameRings_88 fl_CustomValley_Trees_27 rfl rfl ?_
    refine wp_iload dX8_nameRings_91 rfl ?_
    have s5 := h.1
    replace h := h.2
    refine wp_iaload dX8_nameRings_93 rfl rfl s5.1 s5.2 ?_
    refine wp_iload dX8_nameRings_94 rfl ?_
    refine wp_icmp_ne (tgt := 156) dX8_nameRings_96 (by decide) (fun hc => ?_) (fun hc => ?_)
    · replace h := h.1 hc
      have s2 := h.1
      replace h := h.2
      refine wp_iinc dX8_nameRings_156 rfl (by decide) rfl rfl ?_ (h1 := s2.1) (h2 := s2.2)
      refine wp_goto (tgt := 21) dX8_nameRings_159 (by decide) ?_
      exact wp_drop (als' := [vR 9 0, vI x1, vI x2, vI x3, vI (x4 + 1), vU, vU]) (lle_c (Or.inl rfl) (lle_c (Or.inl rfl) (lle_c (Or.inl rfl) (lle_c (Or.inl rfl) (lle_c (Or.inl rfl) (lle_c (Or.inr rfl) (lle_c (Or.inl rfl) lle_n))))))) h
    · replace h := h.2 hc
      refine wp_aload_n dX8_nameRings_99 rfl rfl ?_
      refine wp_getR dX8_nameRings_100 fl_CustomValley_Trees_30 rfl rfl ?_
      refine wp_iload dX8_nameRings_103 rfl ?_
      have s4 := h.1
      replace h := h.2
      refine wp_iaload dX8_nameRings_105 rfl rfl s4.1 s4.2 ?_
      refine wp_iconst dX8_nameRings_106 rfl ?_
      refine wp_icmp_ne (tgt := 156) dX8_nameRings_107 (by decide) (fun hc => ?_) (fun hc => ?_)
      · replace h := h.1 hc
        have s3 := h.1
        replace h := h.2
        refine wp_iinc dX8_nameRings_156 rfl (by decide) rfl rfl ?_ (h1 := s3.1) (h2 := s3.2)
        refine wp_goto (tgt := 21) dX8_nameRings_159 (by decide) ?_
        exact wp_drop (als' := [vR 9 0, vI x1, vI x2, vI x3, vI (x4 + 1), vU, vU]) (lle_c (Or.inl rfl) (lle_c (Or.inl rfl) (lle_c (Or.inl rfl) (lle_c (Or.inl rfl) (lle_c (Or.inl rfl) (lle_c (Or.inr rfl) (lle_c (Or.inl rfl) lle_n))))))) h
      · replace h := h.2 hc
        refine wp_iconst dX8_nameRings_110 rfl ?_
        refine wp_istore dX8_nameRings_111 (by decide) rfl rfl ?_
        exact h
theorem b_X8_nameRings_113 {x1 : Int} {x2 : Int} {x3 : Int} {x4 : Int} {x5 : Int} {x6 : Int} {σ : St} {Q : Res → St → Prop} (h : ((x1 ≤ x6) → ((in32 (x3 + 1)) ∧ ((in32 (x4 + 1)) ∧ (WP mX8_nameRings 21 [vR 9 0, vI x1, vI x2, vI (x3 + 1), vI (x4 + 1), vU, vU] [] σ Q)))) ∧ ((x6 < x1) → ((0 ≤ x5 ∧ x5 < 12) ∧ ((((σ 53 0 x5.toNat) ≠ (-1)) → ((in32 (x3 + 1)) ∧ ((in32 (x4 + 1)) ∧ (WP mX8_nameRings 21 [vR 9 0, vI x1, vI x2, vI (x3 + 1), vI (x4 + 1), vU, vU] [] σ Q)))) ∧ (((σ 53 0 x5.toNat) = (-1)) → ((0 ≤ x5 ∧ x5 < 12) ∧ ((0 ≤ x5 ∧ x5 < 12) ∧ ((in32 (x6 + 1)) ∧ (WP mX8_nameRings 113 [vR 9 0, vI x1, vI x2, vI x3, vI x4, vI (σ 51 0 x5.toNat), vI (x6 + 1)] [] (up σ 53 0 x5.toNat x3) Q))))))))) : WP mX8_nameRings 113 [vR 9 0, vI x1, vI x2, vI x3, vI x4, vI x5, vI x6] [] σ Q := by
  refine wp_iload dX8_nameRings_113 rfl ?_
  refine wp_iload_n dX8_nameRings_115 rfl rfl ?_
  refine wp_icmp_ge (tgt := 153) dX8_nameRings_116 (by decide) (fun hc => ?_) (fun hc => ?_)
  · replace h := h.1 hc
    have s2 := h.1
    replace h := h.2
    refine wp_iinc dX8_nameRings_153 rfl (by decide) rfl rfl ?_ (h1 := s2.1) (h2 := s2.2)
    have s1 := h.1
    replace h := h.2
    refine wp_iinc dX8_nameRings_156 rfl (by decide) rfl rfl ?_ (h1 := s1.1) (h2 := s1.2)
    refine wp_goto (tgt := 21) dX8_nameRings_159 (by decide) ?_
    exact wp_drop (als' := [vR 9 0, vI x1, vI x2, vI (x3 + 1), vI (x4 + 1), vU, vU]) (lle_c (Or.inl rfl) (lle_c (Or.inl rfl) (lle_c (Or.inl rfl) (lle_c (Or.inl rfl) (lle_c (Or.inl rfl) (lle_c (Or.inr rfl) (lle_c (Or.inr rfl) lle_n))))))) h
  · replace h := h.2 hc
    refine wp_aload_n dX8_nameRings_119 rfl rfl ?_
    refine wp_getR dX8_nameRings_120 fl_CustomValley_Trees_30 rfl rfl ?_
    refine wp_iload dX8_nameRings_123 rfl ?_
    have s8 := h.1
    replace h := h.2
    refine wp_iaload dX8_nameRings_125 rfl rfl s8.1 s8.2 ?_
    refine wp_iconst dX8_nameRings_126 rfl ?_
    refine wp_icmp_ne (tgt := 153) dX8_nameRings_127 (by decide) (fun hc => ?_) (fun hc => ?_)
    · replace h := h.1 hc
      have s4 := h.1
      replace h := h.2
      refine wp_iinc dX8_nameRings_153 rfl (by decide) rfl rfl ?_ (h1 := s4.1) (h2 := s4.2)
      have s3 := h.1
      replace h := h.2
      refine wp_iinc dX8_nameRings_156 rfl (by decide) rfl rfl ?_ (h1 := s3.1) (h2 := s3.2)
      refine wp_goto (tgt := 21) dX8_nameRings_159 (by decide) ?_
      exact wp_drop (als' := [vR 9 0, vI x1, vI x2, vI (x3 + 1), vI (x4 + 1), vU, vU]) (lle_c (Or.inl rfl) (lle_c (Or.inl rfl) (lle_c (Or.inl rfl) (lle_c (Or.inl rfl) (lle_c (Or.inl rfl) (lle_c (Or.inr rfl) (lle_c (Or.inr rfl) lle_n))))))) h
    · replace h := h.2 hc
      refine wp_aload_n dX8_nameRings_130 rfl rfl ?_
      refine wp_getR dX8_nameRings_131 fl_CustomValley_Trees_30 rfl rfl ?_
      refine wp_iload dX8_nameRings_134 rfl ?_
      refine wp_iload_n dX8_nameRings_136 rfl rfl ?_
      have s7 := h.1
      replace h := h.2
      refine wp_iastore dX8_nameRings_137 rfl rfl s7.1 s7.2 ?_
      refine wp_aload_n dX8_nameRings_138 rfl rfl ?_
      refine wp_getR dX8_nameRings_139 fl_CustomValley_Trees_24 rfl rfl ?_
      refine wp_iload dX8_nameRings_142 rfl ?_
      have s6 := h.1
      replace h := h.2
      refine wp_iaload dX8_nameRings_144 rfl rfl s6.1 s6.2 ?_
      rw [show (up σ 53 0 x5.toNat x3) 51 0 x5.toNat = σ 51 0 x5.toNat from by simp [up]]
      refine wp_istore dX8_nameRings_145 (by decide) rfl rfl ?_
      have s5 := h.1
      replace h := h.2
      refine wp_iinc dX8_nameRings_147 rfl (by decide) rfl rfl ?_ (h1 := s5.1) (h2 := s5.2)
      refine wp_goto (tgt := 113) dX8_nameRings_150 (by decide) ?_
      exact h
theorem dX0_flowOnce_0 : decode cX0_flowOnce 0 = .ok (.aload_n 1, 1) := by decide +kernel
theorem dX0_flowOnce_1 : decode cX0_flowOnce 1 = .ok (.getfield 29, 3) := by decide +kernel
theorem dX0_flowOnce_4 : decode cX0_flowOnce 4 = .ok (.astore_n 3, 1) := by decide +kernel
theorem dX0_flowOnce_5 : decode cX0_flowOnce 5 = .ok (.aload_n 0, 1) := by decide +kernel
theorem dX0_flowOnce_6 : decode cX0_flowOnce 6 = .ok (.getfield 15, 3) := by decide +kernel
theorem dX0_flowOnce_9 : decode cX0_flowOnce 9 = .ok (.aload_n 3, 1) := by decide +kernel
theorem dX0_flowOnce_10 : decode cX0_flowOnce 10 = .ok (.getfield 45, 3) := by decide +kernel
theorem dX0_flowOnce_13 : decode cX0_flowOnce 13 = .ok (.iconst 0, 1) := by decide +kernel
theorem dX0_flowOnce_14 : decode cX0_flowOnce 14 = .ok (.invokestatic 48, 3) := by decide +kernel
theorem dX0_flowOnce_17 : decode cX0_flowOnce 17 = .ok (.iconst 0, 1) := by decide +kernel
theorem dX0_flowOnce_18 : decode cX0_flowOnce 18 = .ok (.istore 4, 2) := by decide +kernel
theorem dX0_flowOnce_20 : decode cX0_flowOnce 20 = .ok (.iload 4, 2) := by decide +kernel
theorem dX0_flowOnce_22 : decode cX0_flowOnce 22 = .ok (.aload_n 3, 1) := by decide +kernel
theorem dX0_flowOnce_23 : decode cX0_flowOnce 23 = .ok (.getfield 52, 3) := by decide +kernel
theorem dX0_flowOnce_26 : decode cX0_flowOnce 26 = .ok (.if_icmp .ge 37, 3) := by decide +kernel
theorem dX0_flowOnce_29 : decode cX0_flowOnce 29 = .ok (.aload_n 0, 1) := by decide +kernel
theorem dX0_flowOnce_30 : decode cX0_flowOnce 30 = .ok (.getfield 9, 3) := by decide +kernel
theorem dX0_flowOnce_33 : decode cX0_flowOnce 33 = .ok (.aload_n 3, 1) := by decide +kernel
theorem dX0_flowOnce_34 : decode cX0_flowOnce 34 = .ok (.getfield 55, 3) := by decide +kernel
theorem dX0_flowOnce_37 : decode cX0_flowOnce 37 = .ok (.iload 4, 2) := by decide +kernel
theorem dX0_flowOnce_39 : decode cX0_flowOnce 39 = .ok (.iaload, 1) := by decide +kernel
theorem dX0_flowOnce_40 : decode cX0_flowOnce 40 = .ok (.iaload, 1) := by decide +kernel
theorem dX0_flowOnce_41 : decode cX0_flowOnce 41 = .ok (.ifCond .le 16, 3) := by decide +kernel
theorem dX0_flowOnce_44 : decode cX0_flowOnce 44 = .ok (.aload_n 0, 1) := by decide +kernel
theorem dX0_flowOnce_45 : decode cX0_flowOnce 45 = .ok (.aload_n 1, 1) := by decide +kernel
theorem dX0_flowOnce_46 : decode cX0_flowOnce 46 = .ok (.aload_n 3, 1) := by decide +kernel
theorem dX0_flowOnce_47 : decode cX0_flowOnce 47 = .ok (.getfield 55, 3) := by decide +kernel
theorem dX0_flowOnce_50 : decode cX0_flowOnce 50 = .ok (.iload 4, 2) := by decide +kernel
theorem dX0_flowOnce_52 : decode cX0_flowOnce 52 = .ok (.iaload, 1) := by decide +kernel
theorem dX0_flowOnce_53 : decode cX0_flowOnce 53 = .ok (.iload_n 2, 1) := by decide +kernel
theorem dX0_flowOnce_54 : decode cX0_flowOnce 54 = .ok (.invokevirtual 58, 3) := by decide +kernel
theorem dX0_flowOnce_57 : decode cX0_flowOnce 57 = .ok (.iinc 4 1, 3) := by decide +kernel
theorem dX0_flowOnce_60 : decode cX0_flowOnce 60 = .ok (.goto (-40), 3) := by decide +kernel
theorem dX0_flowOnce_63 : decode cX0_flowOnce 63 = .ok (.iconst 0, 1) := by decide +kernel
theorem dX0_flowOnce_64 : decode cX0_flowOnce 64 = .ok (.istore 4, 2) := by decide +kernel
theorem dX0_flowOnce_66 : decode cX0_flowOnce 66 = .ok (.iconst 0, 1) := by decide +kernel
theorem dX0_flowOnce_67 : decode cX0_flowOnce 67 = .ok (.istore 5, 2) := by decide +kernel
theorem dX0_flowOnce_69 : decode cX0_flowOnce 69 = .ok (.iload 5, 2) := by decide +kernel
theorem dX0_flowOnce_71 : decode cX0_flowOnce 71 = .ok (.aload_n 3, 1) := by decide +kernel
theorem dX0_flowOnce_72 : decode cX0_flowOnce 72 = .ok (.getfield 52, 3) := by decide +kernel
theorem dX0_flowOnce_75 : decode cX0_flowOnce 75 = .ok (.if_icmp .ge 59, 3) := by decide +kernel
theorem dX0_flowOnce_78 : decode cX0_flowOnce 78 = .ok (.aload_n 3, 1) := by decide +kernel
theorem dX0_flowOnce_79 : decode cX0_flowOnce 79 = .ok (.getfield 55, 3) := by decide +kernel
theorem dX0_flowOnce_82 : decode cX0_flowOnce 82 = .ok (.iload 5, 2) := by decide +kernel
theorem dX0_flowOnce_84 : decode cX0_flowOnce 84 = .ok (.iaload, 1) := by decide +kernel
theorem dX0_flowOnce_85 : decode cX0_flowOnce 85 = .ok (.istore 6, 2) := by decide +kernel
theorem dX0_flowOnce_87 : decode cX0_flowOnce 87 = .ok (.iload 4, 2) := by decide +kernel
theorem dX0_flowOnce_89 : decode cX0_flowOnce 89 = .ok (.aload_n 0, 1) := by decide +kernel
theorem dX0_flowOnce_90 : decode cX0_flowOnce 90 = .ok (.getfield 9, 3) := by decide +kernel
theorem dX0_flowOnce_93 : decode cX0_flowOnce 93 = .ok (.iload 6, 2) := by decide +kernel
theorem dX0_flowOnce_95 : decode cX0_flowOnce 95 = .ok (.iaload, 1) := by decide +kernel
theorem dX0_flowOnce_96 : decode cX0_flowOnce 96 = .ok (.aload_n 0, 1) := by decide +kernel
theorem dX0_flowOnce_97 : decode cX0_flowOnce 97 = .ok (.getfield 15, 3) := by decide +kernel
theorem dX0_flowOnce_100 : decode cX0_flowOnce 100 = .ok (.iload 6, 2) := by decide +kernel
theorem dX0_flowOnce_102 : decode cX0_flowOnce 102 = .ok (.iaload, 1) := by decide +kernel
theorem dX0_flowOnce_103 : decode cX0_flowOnce 103 = .ok (.if_icmp .eq 7, 3) := by decide +kernel
theorem dX0_flowOnce_106 : decode cX0_flowOnce 106 = .ok (.iconst 1, 1) := by decide +kernel
theorem dX0_flowOnce_107 : decode cX0_flowOnce 107 = .ok (.goto 4, 3) := by decide +kernel
theorem dX0_flowOnce_110 : decode cX0_flowOnce 110 = .ok (.iconst 0, 1) := by decide +kernel
theorem dX0_flowOnce_111 : decode cX0_flowOnce 111 = .ok (.ior, 1) := by decide +kernel
theorem dX0_flowOnce_112 : decode cX0_flowOnce 112 = .ok (.istore 4, 2) := by decide +kernel
theorem dX0_flowOnce_114 : decode cX0_flowOnce 114 = .ok (.aload_n 0, 1) := by decide +kernel
theorem dX0_flowOnce_115 : decode cX0_flowOnce 115 = .ok (.getfield 9, 3) := by decide +kernel
theorem dX0_flowOnce_118 : decode cX0_flowOnce 118 = .ok (.iload 6, 2) := by decide +kernel
theorem dX0_flowOnce_120 : decode cX0_flowOnce 120 = .ok (.aload_n 0, 1) := by decide +kernel
theorem dX0_flowOnce_121 : decode cX0_flowOnce 121 = .ok (.getfield 15, 3) := by decide +kernel
theorem dX0_flowOnce_124 : decode cX0_flowOnce 124 = .ok (.iload 6, 2) := by decide +kernel
theorem dX0_flowOnce_126 : decode cX0_flowOnce 126 = .ok (.iaload, 1) := by decide +kernel
theorem dX0_flowOnce_127 : decode cX0_flowOnce 127 = .ok (.iastore, 1) := by decide +kernel
theorem dX0_flowOnce_128 : decode cX0_flowOnce 128 = .ok (.iinc 5 1, 3) := by decide +kernel
theorem dX0_flowOnce_131 : decode cX0_flowOnce 131 = .ok (.goto (-62), 3) := by decide +kernel
theorem dX0_flowOnce_134 : decode cX0_flowOnce 134 = .ok (.iload 4, 2) := by decide +kernel
theorem dX0_flowOnce_136 : decode cX0_flowOnce 136 = .ok (.ireturn, 1) := by decide +kernel
theorem b_X0_flowOnce_0 {j : Nat} {x2 : Int} {σ : St} {Q : Res → St → Prop} (h : WP mX11_fillTo 0 [vR 21 0, vI (σ 10 j 11), vI 0, vU] [] σ (CT mX0_flowOnce 17 [vR 1 0, vR 2 j, vI x2, vR 10 j, vU, vU, vU] [] Q)) : WP mX0_flowOnce 0 [vR 1 0, vR 2 j, vI x2, vU, vU, vU, vU] [] σ Q := by
  refine wp_aload_n dX0_flowOnce_0 rfl rfl ?_
  refine wp_getR dX0_flowOnce_1 fl_CustomValley_Flow_29 rfl rfl ?_
  refine wp_astore_n dX0_flowOnce_4 rfl (by decide) rfl rfl ?_
  refine wp_aload_n dX0_flowOnce_5 rfl rfl ?_
  refine wp_getR dX0_flowOnce_6 fl_CustomValley_Flow_15 rfl rfl ?_
  refine wp_aload_n dX0_flowOnce_9 rfl rfl ?_
  refine wp_getI dX0_flowOnce_10 fl_CustomValley_Flow_45 rfl rfl rfl ?_
  refine wp_iconst dX0_flowOnce_13 rfl ?_
  refine wp_invN (N := mX11_fillTo) [vR 21 0, vI (σ 10 j 11), vI 0] dX0_flowOnce_14 mn_CustomValley_Flow_48 mvX11_fillTo rfl rfl rfl (Nat.le_of_ble_eq_true rfl) (Nat.le_of_ble_eq_true rfl) (by decide) (by decide) ?_
  exact h
theorem b_X0_flowOnce_17 {j : Nat} {x2 : Int} {σ : St} {Q : Res → St → Prop} (h : WP mX0_flowOnce 20 [vR 1 0, vR 2 j, vI x2, vR 10 j, vI 0, vU, vU] [] σ Q) : WP mX0_flowOnce 17 [vR 1 0, vR 2 j, vI x2, vR 10 j, vU, vU, vU] [] σ Q := by
  refine wp_iconst dX0_flowOnce_17 rfl ?_
  refine wp_istore dX0_flowOnce_18 (by decide) rfl rfl ?_
  exact h
theorem b_X0_flowOnce_20 {j : Nat} {x2 : Int} {x4 : Int} {σ : St} {Q : Res → St → Prop} (h : (((σ 10 j 12) ≤ x4) → (WP mX0_flowOnce 69 [vR 1 0, vU, vU, vR 10 j, vI 0, vI 0, vU] [] σ Q)) ∧ ((x4 < (σ 10 j 12)) → ((0 ≤ x4 ∧ x4 < 1024) ∧ ((0 ≤ σ 61 j x4.toNat ∧ (σ 61 j x4.toNat) < 1024) ∧ ((((σ 20 0 ((σ 61 j x4.toNat).toNat)) ≤ 0) → (WP mX0_flowOnce 57 [vR 1 0, vR 2 j, vI x2, vR 10 j, vI x4, vU, vU] [] σ Q)) ∧ ((0 < (σ 20 0 ((σ 61 j x4.toNat).toNat))) → ((0 ≤ x4 ∧ x4 < 1024) ∧ (WP mX0_spread 0 [vR 1 0, vR 2 j, vI (σ 61 j x4.toNat), vI x2, vU, vU, vU, vU, vU, vU, vU, vU, vU, vU, vU] [] σ (CT mX0_flowOnce 57 [vR 1 0, vR 2 j, vI x2, vR 10 j, vI x4, vU, vU] [] Q))))))))) : WP mX0_flowOnce 20 [vR 1 0, vR 2 j, vI x2, vR 10 j, vI x4, vU, vU] [] σ Q := by
  refine wp_iload dX0_flowOnce_20 rfl ?_
  refine wp_aload_n dX0_flowOnce_22 rfl rfl ?_
  refine wp_getI dX0_flowOnce_23 fl_CustomValley_Flow_52 rfl rfl rfl ?_
  refine wp_icmp_ge (tgt := 63) dX0_flowOnce_26 (by decide) (fun hc => ?_) (fun hc => ?_)
  · replace h := h.1 hc
    refine wp_iconst dX0_flowOnce_63 rfl ?_
    refine wp_istore dX0_flowOnce_64 (by decide) rfl rfl ?_
    refine wp_iconst dX0_flowOnce_66 rfl ?_
    refine wp_istore dX0_flowOnce_67 (by decide) rfl rfl ?_
    exact wp_drop (als' := [vR 1 0, vU, vU, vR 10 j, vI 0, vI 0, vU]) (lle_c (Or.inl rfl) (lle_c (Or.inr rfl) (lle_c (Or.inr rfl) (lle_c (Or.inl rfl) (lle_c (Or.inl rfl) (lle_c (Or.inl rfl) (lle_c (Or.inl rfl) lle_n))))))) h
  · replace h := h.2 hc
    refine wp_aload_n dX0_flowOnce_29 rfl rfl ?_
    refine wp_getR dX0_flowOnce_30 fl_CustomValley_Flow_9 rfl rfl ?_
    refine wp_aload_n dX0_flowOnce_33 rfl rfl ?_
    refine wp_getR dX0_flowOnce_34 fl_CustomValley_Flow_55 rfl rfl ?_
    refine wp_iload dX0_flowOnce_37 rfl ?_
    have s3 := h.1
    replace h := h.2
    refine wp_iaload dX0_flowOnce_39 rfl rfl s3.1 s3.2 ?_
    have s2 := h.1
    replace h := h.2
    refine wp_iaload dX0_flowOnce_40 rfl rfl s2.1 s2.2 ?_
    refine wp_if_le (tgt := 57) dX0_flowOnce_41 (by decide) (fun hc => ?_) (fun hc => ?_)
    · replace h := h.1 hc
      exact h
    · replace h := h.2 hc
      refine wp_aload_n dX0_flowOnce_44 rfl rfl ?_
      refine wp_aload_n dX0_flowOnce_45 rfl rfl ?_
      refine wp_aload_n dX0_flowOnce_46 rfl rfl ?_
      refine wp_getR dX0_flowOnce_47 fl_CustomValley_Flow_55 rfl rfl ?_
      refine wp_iload dX0_flowOnce_50 rfl ?_
      have s1 := h.1
      replace h := h.2
      refine wp_iaload dX0_flowOnce_52 rfl rfl s1.1 s1.2 ?_
      refine wp_iload_n dX0_flowOnce_53 rfl rfl ?_
      refine wp_invV (N := mX0_spread) [vR 2 j, vI (σ 61 j x4.toNat), vI x2] dX0_flowOnce_54 ml_CustomValley_Flow_58 mvX0_spread rfl rfl rfl rfl rfl (Nat.le_of_ble_eq_true rfl) (Nat.le_of_ble_eq_true rfl) (by decide) (by decide) (by decide) ?_
      exact h
theorem b_X0_flowOnce_57 {j : Nat} {x2 : Int} {x4 : Int} {σ : St} {Q : Res → St → Prop} (h : (in32 (x4 + 1)) ∧ (WP mX0_flowOnce 20 [vR 1 0, vR 2 j, vI x2, vR 10 j, vI (x4 + 1), vU, vU] [] σ Q)) : WP mX0_flowOnce 57 [vR 1 0, vR 2 j, vI x2, vR 10 j, vI x4, vU, vU] [] σ Q := by
  have s1 := h.1
  replace h := h.2
  refine wp_iinc dX0_flowOnce_57 rfl (by decide) rfl rfl ?_ (h1 := s1.1) (h2 := s1.2)
  refine wp_goto (tgt := 20) dX0_flowOnce_60 (by decide) ?_
  exact h
theorem b_X0_flowOnce_69 {j : Nat} {x4 : Int} {x5 : Int} {σ : St} {Q : Res → St → Prop} (h : (((σ 10 j 12) ≤ x5) → ((x4 = 0 ∨ x4 = 1) ∧ Q (.inl (some (vI x4))) σ)) ∧ ((x5 < (σ 10 j 12)) → ((0 ≤ x5 ∧ x5 < 1024) ∧ ((0 ≤ σ 61 j x5.toNat ∧ (σ 61 j x5.toNat) < 1024) ∧ ((0 ≤ σ 61 j x5.toNat ∧ (σ 61 j x5.toNat) < 1024) ∧ ((((σ 20 0 ((σ 61 j x5.toNat).toNat)) = (σ 21 0 ((σ 61 j x5.toNat).toNat))) → ((0 ≤ σ 61 j x5.toNat ∧ (σ 61 j x5.toNat) < 1024) ∧ ((0 ≤ σ 61 j x5.toNat ∧ (σ 61 j x5.toNat) < 1024) ∧ ((in32 (x5 + 1)) ∧ (WP mX0_flowOnce 69 [vR 1 0, vU, vU, vR 10 j, vI (bor x4 0), vI (x5 + 1), vU] [] (up σ 20 0 ((σ 61 j x5.toNat).toNat) (σ 21 0 ((σ 61 j x5.toNat).toNat))) Q))))) ∧ (((σ 20 0 ((σ 61 j x5.toNat).toNat)) ≠ (σ 21 0 ((σ 61 j x5.toNat).toNat))) → ((0 ≤ σ 61 j x5.toNat ∧ (σ 61 j x5.toNat) < 1024) ∧ ((0 ≤ σ 61 j x5.toNat ∧ (σ 61 j x5.toNat) < 1024) ∧ ((in32 (x5 + 1)) ∧ (WP mX0_flowOnce 69 [vR 1 0, vU, vU, vR 10 j, vI (bor x4 1), vI (x5 + 1), vU] [] (up σ 20 0 ((σ 61 j x5.toNat).toNat) (σ 21 0 ((σ 61 j x5.toNat).toNat))) Q))))))))))) : WP mX0_flowOnce 69 [vR 1 0, vU, vU, vR 10 j, vI x4, vI x5, vU] [] σ Q := by
  refine wp_iload dX0_flowOnce_69 rfl ?_
  refine wp_aload_n dX0_flowOnce_71 rfl rfl ?_
  refine wp_getI dX0_flowOnce_72 fl_CustomValley_Flow_52 rfl rfl rfl ?_
  refine wp_icmp_ge (tgt := 134) dX0_flowOnce_75 (by decide) (fun hc => ?_) (fun hc => ?_)
  · replace h := h.1 hc
    refine wp_iload dX0_flowOnce_134 rfl ?_
    have s1 := h.1
    replace h := h.2
    exact wp_zret dX0_flowOnce_136 rfl h s1
  · replace h := h.2 hc
    refine wp_aload_n dX0_flowOnce_78 rfl rfl ?_
    refine wp_getR dX0_flowOnce_79 fl_CustomValley_Flow_55 rfl rfl ?_
    refine wp_iload dX0_flowOnce_82 rfl ?_
    have s10 := h.1
    replace h := h.2
    refine wp_iaload dX0_flowOnce_84 rfl rfl s10.1 s10.2 ?_
    refine wp_istore dX0_flowOnce_85 (by decide) rfl rfl ?_
    refine wp_iload dX0_flowOnce_87 rfl ?_
    refine wp_aload_n dX0_flowOnce_89 rfl rfl ?_
    refine wp_getR dX0_flowOnce_90 fl_CustomValley_Flow_9 rfl rfl ?_
    refine wp_iload dX0_flowOnce_93 rfl ?_
    have s9 := h.1
    replace h := h.2
    refine wp_iaload dX0_flowOnce_95 rfl rfl s9.1 s9.2 ?_
    refine wp_aload_n dX0_flowOnce_96 rfl rfl ?_
    refine wp_getR dX0_flowOnce_97 fl_CustomValley_Flow_15 rfl rfl ?_
    refine wp_iload dX0_flowOnce_100 rfl ?_
    have s8 := h.1
    replace h := h.2
    refine wp_iaload dX0_flowOnce_102 rfl rfl s8.1 s8.2 ?_
    refine wp_icmp_eq (tgt := 110) dX0_flowOnce_103 (by decide) (fun hc => ?_) (fun hc => ?_)
    · replace h := h.1 hc
      refine wp_iconst dX0_flowOnce_110 rfl ?_
      refine wp_ior dX0_flowOnce_111 ?_
      refine wp_istore dX0_flowOnce_112 (by decide) rfl rfl ?_
      refine wp_aload_n dX0_flowOnce_114 rfl rfl ?_
      refine wp_getR dX0_flowOnce_115 fl_CustomValley_Flow_9 rfl rfl ?_
      refine wp_iload dX0_flowOnce_118 rfl ?_
      refine wp_aload_n dX0_flowOnce_120 rfl rfl ?_
      refine wp_getR dX0_flowOnce_121 fl_CustomValley_Flow_15 rfl rfl ?_
      refine wp_iload dX0_flowOnce_124 rfl ?_
      have s4 := h.1
      replace h := h.2
      refine wp_iaload dX0_flowOnce_126 rfl rfl s4.1 s4.2 ?_
      have s3 := h.1
      replace h := h.2
      refine wp_iastore dX0_flowOnce_127 rfl rfl s3.1 s3.2 ?_
      have s2 := h.1
      replace h := h.2
      refine wp_iinc dX0_flowOnce_128 rfl (by decide) rfl rfl ?_ (h1 := s2.1) (h2 := s2.2)
      refine wp_goto (tgt := 69) dX0_flowOnce_131 (by decide) ?_
      exact wp_drop (als' := [vR 1 0, vU, vU, vR 10 j, vI (bor x4 0), vI (x5 + 1), vU]) (lle_c (Or.inl rfl) (lle_c (Or.inl rfl) (lle_c (Or.inl rfl) (lle_c (Or.inl rfl) (lle_c (Or.inl rfl) (lle_c (Or.inl rfl) (lle_c (Or.inr rfl) lle_n))))))) h
    · replace h := h.2 hc
      refine wp_iconst dX0_flowOnce_106 rfl ?_
      refine wp_goto (tgt := 111) dX0_flowOnce_107 (by decide) ?_
      refine wp_ior dX0_flowOnce_111 ?_
      refine wp_istore dX0_flowOnce_112 (by decide) rfl rfl ?_
      refine wp_aload_n dX0_flowOnce_114 rfl rfl ?_
      refine wp_getR dX0_flowOnce_115 fl_CustomValley_Flow_9 rfl rfl ?_
      refine wp_iload dX0_flowOnce_118 rfl ?_
      refine wp_aload_n dX0_flowOnce_120 rfl rfl ?_
      refine wp_getR dX0_flowOnce_121 fl_CustomValley_Flow_15 rfl rfl ?_
      refine wp_iload dX0_flowOnce_124 rfl ?_
      have s7 := h.1
      replace h := h.2
      refine wp_iaload dX0_flowOnce_126 rfl rfl s7.1 s7.2 ?_
      have s6 := h.1
      replace h := h.2
      refine wp_iastore dX0_flowOnce_127 rfl rfl s6.1 s6.2 ?_
      have s5 := h.1
      replace h := h.2
      refine wp_iinc dX0_flowOnce_128 rfl (by decide) rfl rfl ?_ (h1 := s5.1) (h2 := s5.2)
      refine wp_goto (tgt := 69) dX0_flowOnce_131 (by decide) ?_
      exact wp_drop (als' := [vR 1 0, vU, vU, vR 10 j, vI (bor x4 1), vI (x5 + 1), vU]) (lle_c (Or.inl rfl) (lle_c (Or.inl rfl) (lle_c (Or.inl rfl) (lle_c (Or.inl rfl) (lle_c (Or.inl rfl) (lle_c (Or.inl rfl) (lle_c (Or.inr rfl) lle_n))))))) h
theorem dX10_step_0 : decode cX10_step 0 = .ok (.aload_n 1, 1) := by decide +kernel
theorem dX10_step_1 : decode cX10_step 1 = .ok (.getfield 41, 3) := by decide +kernel
theorem dX10_step_4 : decode cX10_step 4 = .ok (.aload_n 0, 1) := by decide +kernel
theorem dX10_step_5 : decode cX10_step 5 = .ok (.getfield 19, 3) := by decide +kernel
theorem dX10_step_8 : decode cX10_step 8 = .ok (.iload_n 2, 1) := by decide +kernel
theorem dX10_step_9 : decode cX10_step 9 = .ok (.invokevirtual 47, 3) := by decide +kernel
theorem dX10_step_12 : decode cX10_step 12 = .ok (.iload_n 3, 1) := by decide +kernel
theorem dX10_step_13 : decode cX10_step 13 = .ok (.ishr, 1) := by decide +kernel
theorem dX10_step_14 : decode cX10_step 14 = .ok (.iconst 1, 1) := by decide +kernel
theorem dX10_step_15 : decode cX10_step 15 = .ok (.iand, 1) := by decide +kernel
theorem dX10_step_16 : decode cX10_step 16 = .ok (.ifCond .ne 31, 3) := by decide +kernel
theorem dX10_step_19 : decode cX10_step 19 = .ok (.aload_n 0, 1) := by decide +kernel
theorem dX10_step_20 : decode cX10_step 20 = .ok (.dup, 1) := by decide +kernel
theorem dX10_step_21 : decode cX10_step 21 = .ok (.getfield 23, 3) := by decide +kernel
theorem dX10_step_24 : decode cX10_step 24 = .ok (.iconst 1, 1) := by decide +kernel
theorem dX10_step_25 : decode cX10_step 25 = .ok (.iadd, 1) := by decide +kernel
theorem dX10_step_26 : decode cX10_step 26 = .ok (.putfield 23, 3) := by decide +kernel
theorem dX10_step_29 : decode cX10_step 29 = .ok (.aload_n 0, 1) := by decide +kernel
theorem dX10_step_30 : decode cX10_step 30 = .ok (.dup, 1) := by decide +kernel
theorem dX10_step_31 : decode cX10_step 31 = .ok (.getfield 26, 3) := by decide +kernel
theorem dX10_step_34 : decode cX10_step 34 = .ok (.aload_n 1, 1) := by decide +kernel
theorem dX10_step_35 : decode cX10_step 35 = .ok (.getfield 53, 3) := by decide +kernel
theorem dX10_step_38 : decode cX10_step 38 = .ok (.getfield 57, 3) := by decide +kernel
theorem dX10_step_41 : decode cX10_step 41 = .ok (.iload_n 3, 1) := by decide +kernel
theorem dX10_step_42 : decode cX10_step 42 = .ok (.iaload, 1) := by decide +kernel
theorem dX10_step_43 : decode cX10_step 43 = .ok (.iadd, 1) := by decide +kernel
theorem dX10_step_44 : decode cX10_step 44 = .ok (.putfield 26, 3) := by decide +kernel
theorem dX10_step_47 : decode cX10_step 47 = .ok (.aload_n 0, 1) := by decide +kernel
theorem dX10_step_48 : decode cX10_step 48 = .ok (.getfield 9, 3) := by decide +kernel
theorem dX10_step_51 : decode cX10_step 51 = .ok (.iload_n 2, 1) := by decide +kernel
theorem dX10_step_52 : decode cX10_step 52 = .ok (.dup2, 1) := by decide +kernel
theorem dX10_step_53 : decode cX10_step 53 = .ok (.iaload, 1) := by decide +kernel
theorem dX10_step_54 : decode cX10_step 54 = .ok (.iconst 1, 1) := by decide +kernel
theorem dX10_step_55 : decode cX10_step 55 = .ok (.iadd, 1) := by decide +kernel
theorem dX10_step_56 : decode cX10_step 56 = .ok (.iastore, 1) := by decide +kernel
theorem dX10_step_57 : decode cX10_step 57 = .ok (.aload_n 0, 1) := by decide +kernel
theorem dX10_step_58 : decode cX10_step 58 = .ok (.aload_n 1, 1) := by decide +kernel
theorem dX10_step_59 : decode cX10_step 59 = .ok (.getfield 53, 3) := by decide +kernel
theorem dX10_step_62 : decode cX10_step 62 = .ok (.aload_n 0, 1) := by decide +kernel
theorem dX10_step_63 : decode cX10_step 63 = .ok (.getfield 19, 3) := by decide +kernel
theorem dX10_step_66 : decode cX10_step 66 = .ok (.iload_n 2, 1) := by decide +kernel
theorem dX10_step_67 : decode cX10_step 67 = .ok (.iload_n 3, 1) := by decide +kernel
theorem dX10_step_68 : decode cX10_step 68 = .ok (.invokevirtual 61, 3) := by decide +kernel
theorem dX10_step_71 : decode cX10_step 71 = .ok (.putfield 19, 3) := by decide +kernel
theorem dX10_step_74 : decode cX10_step 74 = .ok (.aload_n 1, 1) := by decide +kernel
theorem dX10_step_75 : decode cX10_step 75 = .ok (.getfield 65, 3) := by decide +kernel
theorem dX10_step_78 : decode cX10_step 78 = .ok (.getfield 69, 3) := by decide +kernel
theorem dX10_step_81 : decode cX10_step 81 = .ok (.aload_n 0, 1) := by decide +kernel
theorem dX10_step_82 : decode cX10_step 82 = .ok (.getfield 19, 3) := by decide +kernel
theorem dX10_step_85 : decode cX10_step 85 = .ok (.iaload, 1) := by decide +kernel
theorem dX10_step_86 : decode cX10_step 86 = .ok (.iconst (-1), 1) := by decide +kernel
theorem dX10_step_87 : decode cX10_step 87 = .ok (.if_icmp .eq 13, 3) := by decide +kernel
theorem dX10_step_90 : decode cX10_step 90 = .ok (.aload_n 0, 1) := by decide +kernel
theorem dX10_step_91 : decode cX10_step 91 = .ok (.dup, 1) := by decide +kernel
theorem dX10_step_92 : decode cX10_step 92 = .ok (.getfield 29, 3) := by decide +kernel
theorem dX10_step_95 : decode cX10_step 95 = .ok (.iconst 1, 1) := by decide +kernel
theorem dX10_step_96 : decode cX10_step 96 = .ok (.iadd, 1) := by decide +kernel
theorem dX10_step_97 : decode cX10_step 97 = .ok (.putfield 29, 3) := by decide +kernel
theorem dX10_step_100 : decode cX10_step 100 = .ok (.return_, 1) := by decide +kernel
theorem b_X10_step_0 {i : Nat} {j : Nat} {x2 : Int} {x3 : Int} {σ : St} {Q : Res → St → Prop} (h : (in32 ((σ 11 i 1) * 10) ∧ in32 (((σ 11 i 1) * 10) + x2) ∧ 0 ≤ ((σ 11 i 1) * 10) + x2 ∧ (((σ 11 i 1) * 10) + x2) < 10240) ∧ ((((band (shr (band (σ 23 j ((((σ 11 i 1) * 10) + x2).toNat)) 15) x3) 1) ≠ 0) → (WP mX10_step 47 [vR 11 i, vR 2 j, vI x2, vI x3] [] σ Q)) ∧ (((band (shr (band (σ 23 j ((((σ 11 i 1) * 10) + x2).toNat)) 15) x3) 1) = 0) → ((in32 ((σ 11 i 2) + 1)) ∧ ((0 ≤ x3 ∧ x3 < 4) ∧ ((in32 ((σ 11 i 3) + (σ 55 j x3.toNat))) ∧ (WP mX10_step 47 [vR 11 i, vR 2 j, vI x2, vI x3] [] (up (up σ 11 i 2 ((σ 11 i 2) + 1)) 11 i 3 ((σ 11 i 3) + (σ 55 j x3.toNat))) Q))))))) : WP mX10_step 0 [vR 11 i, vR 2 j, vI x2, vI x3] [] σ Q := by
  refine wp_aload_n dX10_step_0 rfl rfl ?_
  refine wp_getR dX10_step_1 fl_CustomValley_Walk_41 rfl rfl ?_
  refine wp_aload_n dX10_step_4 rfl rfl ?_
  refine wp_getI dX10_step_5 fl_CustomValley_Walk_19 rfl rfl rfl ?_
  refine wp_iload_n dX10_step_8 rfl rfl ?_
  have s4 := h.1
  replace h := h.2
  refine wp_invV (N := mX3_bits) [vI (σ 11 i 1), vI x2] dX10_step_9 ml_CustomValley_Walk_47 mvX3_bits rfl rfl rfl rfl rfl (Nat.le_of_ble_eq_true rfl) (Nat.le_of_ble_eq_true rfl) (by decide) (by decide) (by decide) ?_
  refine pb_X3_bits s4 ?_
  show WP mX10_step 12 [vR 11 i, vR 2 j, vI x2, vI x3] [vI (band (σ 23 j ((((σ 11 i 1) * 10) + x2).toNat)) 15)] σ Q
  refine wp_iload_n dX10_step_12 rfl rfl ?_
  refine wp_ishr dX10_step_13 ?_
  refine wp_iconst dX10_step_14 rfl ?_
  refine wp_iand dX10_step_15 ?_
  refine wp_if_ne (tgt := 47) dX10_step_16 (by decide) (fun hc => ?_) (fun hc => ?_)
  · replace h := h.1 hc
    exact h
  · replace h := h.2 hc
    refine wp_aload_n dX10_step_19 rfl rfl ?_
    refine wp_dup dX10_step_20 ?_
    refine wp_getI dX10_step_21 fl_CustomValley_Walk_23 rfl rfl rfl ?_
    refine wp_iconst dX10_step_24 rfl ?_
    have s3 := h.1
    replace h := h.2
    refine wp_iadd dX10_step_25 ?_ (h1 := s3.1) (h2 := s3.2)
    refine wp_putI dX10_step_26 fp_CustomValley_Walk_23 rfl rfl rfl ?_
    refine wp_aload_n dX10_step_29 rfl rfl ?_
    refine wp_dup dX10_step_30 ?_
    refine wp_getI dX10_step_31 fl_CustomValley_Walk_26 rfl rfl rfl ?_
    rw [show (up σ 11 i 2 ((σ 11 i 2) + 1)) 11 i 3 = σ 11 i 3 from by simp [up]]
    refine wp_aload_n dX10_step_34 rfl rfl ?_
    refine wp_getR dX10_step_35 fl_CustomValley_Walk_53 rfl rfl ?_
    refine wp_getR dX10_step_38 fl_CustomValley_Walk_57 rfl rfl ?_
    refine wp_iload_n dX10_step_41 rfl rfl ?_
    have s2 := h.1
    replace h := h.2
    refine wp_iaload dX10_step_42 rfl rfl s2.1 s2.2 ?_
    rw [show (up σ 11 i 2 ((σ 11 i 2) + 1)) 55 j x3.toNat = σ 55 j x3.toNat from by simp [up]]
    have s1 := h.1
    replace h := h.2
    refine wp_iadd dX10_step_43 ?_ (h1 := s1.1) (h2 := s1.2)
    refine wp_putI dX10_step_44 fp_CustomValley_Walk_26 rfl rfl rfl ?_
    exact h
theorem b_X10_step_47 {i : Nat} {j : Nat} {x2 : Int} {x3 : Int} {σ : St} {Q : Res → St → Prop} (h : (0 ≤ x2 ∧ x2 < 10) ∧ ((in32 ((σ 62 i x2.toNat) + 1)) ∧ ((0 ≤ x2 ∧ x2 < 10) ∧ ((0 ≤ x2 ∧ x2 < 11 ∧ 0 ≤ σ 11 i 1 ∧ 0 < σ 60 j x2.toNat ∧ 0 ≤ (σ 11 i 1) / (σ 60 j x2.toNat) ∧ 0 < σ 10 j 1 ∧ in32 (x3 - (((σ 11 i 1) / (σ 60 j x2.toNat)) % (σ 10 j 1))) ∧ 0 ≤ x2 ∧ x2 < 11 ∧ in32 ((x3 - (((σ 11 i 1) / (σ 60 j x2.toNat)) % (σ 10 j 1))) * (σ 60 j x2.toNat)) ∧ in32 ((σ 11 i 1) + ((x3 - (((σ 11 i 1) / (σ 60 j x2.toNat)) % (σ 10 j 1))) * (σ 60 j x2.toNat)))) ∧ ((0 ≤ (σ 11 i 1) + ((x3 - (((σ 11 i 1) / (σ 60 j x2.toNat)) % (σ 10 j 1))) * (σ 60 j x2.toNat)) ∧ ((σ 11 i 1) + ((x3 - (((σ 11 i 1) / (σ 60 j x2.toNat)) % (σ 10 j 1))) * (σ 60 j x2.toNat))) < 1024) ∧ ((((σ 27 j (((σ 11 i 1) + ((x3 - (((σ 11 i 1) / (σ 60 j x2.toNat)) % (σ 10 j 1))) * (σ 60 j x2.toNat))).toNat)) = (-1)) → (Q (.inl none) (up (up σ 62 i x2.toNat ((σ 62 i x2.toNat) + 1)) 11 i 1 ((σ 11 i 1) + ((x3 - (((σ 11 i 1) / (σ 60 j x2.toNat)) % (σ 10 j 1))) * (σ 60 j x2.toNat)))))) ∧ (((σ 27 j (((σ 11 i 1) + ((x3 - (((σ 11 i 1) / (σ 60 j x2.toNat)) % (σ 10 j 1))) * (σ 60 j x2.toNat))).toNat)) ≠ (-1)) → ((in32 ((σ 11 i 4) + 1)) ∧ (Q (.inl none) (up (up (up σ 62 i x2.toNat ((σ 62 i x2.toNat) + 1)) 11 i 1 ((σ 11 i 1) + ((x3 - (((σ 11 i 1) / (σ 60 j x2.toNat)) % (σ 10 j 1))) * (σ 60 j x2.toNat)))) 11 i 4 ((σ 11 i 4) + 1))))))))))) : WP mX10_step 47 [vR 11 i, vR 2 j, vI x2, vI x3] [] σ Q := by
  refine wp_aload_n dX10_step_47 rfl rfl ?_
  refine wp_getR dX10_step_48 fl_CustomValley_Walk_9 rfl rfl ?_
  refine wp_iload_n dX10_step_51 rfl rfl ?_
  refine wp_dup2 dX10_step_52 ?_
  have s6 := h.1
  replace h := h.2
  refine wp_iaload dX10_step_53 rfl rfl s6.1 s6.2 ?_
  refine wp_iconst dX10_step_54 rfl ?_
  have s5 := h.1
  replace h := h.2
  refine wp_iadd dX10_step_55 ?_ (h1 := s5.1) (h2 := s5.2)
  have s4 := h.1
  replace h := h.2
  refine wp_iastore dX10_step_56 rfl rfl s4.1 s4.2 ?_
  refine wp_aload_n dX10_step_57 rfl rfl ?_
  refine wp_aload_n dX10_step_58 rfl rfl ?_
  refine wp_getR dX10_step_59 fl_CustomValley_Walk_53 rfl rfl ?_
  refine wp_aload_n dX10_step_62 rfl rfl ?_
  refine wp_getI dX10_step_63 fl_CustomValley_Walk_19 rfl rfl rfl ?_
  rw [show (up σ 62 i x2.toNat ((σ 62 i x2.toNat) + 1)) 11 i 1 = σ 11 i 1 from by simp [up]]
  refine wp_iload_n dX10_step_66 rfl rfl ?_
  refine wp_iload_n dX10_step_67 rfl rfl ?_
  have s3 := h.1
  replace h := h.2
  refine wp_invV (N := mX9_with) [vI (σ 11 i 1), vI x2, vI x3] dX10_step_68 ml_CustomValley_Walk_61 mvX9_with rfl rfl rfl rfl rfl (Nat.le_of_ble_eq_true rfl) (Nat.le_of_ble_eq_true rfl) (by decide) (by decide) (by decide) ?_
  refine pb_X9_with s3 ?_
  show WP mX10_step 71 [vR 11 i, vR 2 j, vI x2, vI x3] [vI ((σ 11 i 1) + ((x3 - (((σ 11 i 1) / (σ 60 j x2.toNat)) % (σ 10 j 1))) * (σ 60 j x2.toNat))), vR 11 i] (up σ 62 i x2.toNat ((σ 62 i x2.toNat) + 1)) Q
  refine wp_putI dX10_step_71 fp_CustomValley_Walk_19 rfl rfl rfl ?_
  refine wp_aload_n dX10_step_74 rfl rfl ?_
  refine wp_getR dX10_step_75 fl_CustomValley_Walk_65 rfl rfl ?_
  refine wp_getR dX10_step_78 fl_CustomValley_Walk_69 rfl rfl ?_
  refine wp_aload_n dX10_step_81 rfl rfl ?_
  refine wp_getI dX10_step_82 fl_CustomValley_Walk_19 rfl rfl rfl ?_
  rw [show (up (up σ 62 i x2.toNat ((σ 62 i x2.toNat) + 1)) 11 i 1 ((σ 11 i 1) + ((x3 - (((σ 11 i 1) / (σ 60 j x2.toNat)) % (σ 10 j 1))) * (σ 60 j x2.toNat)))) 11 i 1 = (σ 11 i 1) + ((x3 - (((σ 11 i 1) / (σ 60 j x2.toNat)) % (σ 10 j 1))) * (σ 60 j x2.toNat)) from by simp [up]]
  have s2 := h.1
  replace h := h.2
  refine wp_iaload dX10_step_85 rfl rfl s2.1 s2.2 ?_
  rw [show (up (up σ 62 i x2.toNat ((σ 62 i x2.toNat) + 1)) 11 i 1 ((σ 11 i 1) + ((x3 - (((σ 11 i 1) / (σ 60 j x2.toNat)) % (σ 10 j 1))) * (σ 60 j x2.toNat)))) 27 j (((σ 11 i 1) + ((x3 - (((σ 11 i 1) / (σ 60 j x2.toNat)) % (σ 10 j 1))) * (σ 60 j x2.toNat))).toNat) = σ 27 j (((σ 11 i 1) + ((x3 - (((σ 11 i 1) / (σ 60 j x2.toNat)) % (σ 10 j 1))) * (σ 60 j x2.toNat))).toNat) from by simp [up]]
  refine wp_iconst dX10_step_86 rfl ?_
  refine wp_icmp_eq (tgt := 100) dX10_step_87 (by decide) (fun hc => ?_) (fun hc => ?_)
  · replace h := h.1 hc
    exact wp_ret dX10_step_100 rfl h
  · replace h := h.2 hc
    refine wp_aload_n dX10_step_90 rfl rfl ?_
    refine wp_dup dX10_step_91 ?_
    refine wp_getI dX10_step_92 fl_CustomValley_Walk_29 rfl rfl rfl ?_
    rw [show (up (up σ 62 i x2.toNat ((σ 62 i x2.toNat) + 1)) 11 i 1 ((σ 11 i 1) + ((x3 - (((σ 11 i 1) / (σ 60 j x2.toNat)) % (σ 10 j 1))) * (σ 60 j x2.toNat)))) 11 i 4 = σ 11 i 4 from by simp [up]]
    refine wp_iconst dX10_step_95 rfl ?_
    have s1 := h.1
    replace h := h.2
    refine wp_iadd dX10_step_96 ?_ (h1 := s1.1) (h2 := s1.2)
    refine wp_putI dX10_step_97 fp_CustomValley_Walk_29 rfl rfl rfl ?_
    exact wp_ret dX10_step_100 rfl h
theorem dX8_sumAsFixed_0 : decode cX8_sumAsFixed 0 = .ok (.aload_n 1, 1) := by decide +kernel
theorem dX8_sumAsFixed_1 : decode cX8_sumAsFixed 1 = .ok (.getfield 50, 3) := by decide +kernel
theorem dX8_sumAsFixed_4 : decode cX8_sumAsFixed 4 = .ok (.getfield 56, 3) := by decide +kernel
theorem dX8_sumAsFixed_7 : decode cX8_sumAsFixed 7 = .ok (.istore_n 3, 1) := by decide +kernel
theorem dX8_sumAsFixed_8 : decode cX8_sumAsFixed 8 = .ok (.iconst 0, 1) := by decide +kernel
theorem dX8_sumAsFixed_9 : decode cX8_sumAsFixed 9 = .ok (.istore 4, 2) := by decide +kernel
theorem dX8_sumAsFixed_11 : decode cX8_sumAsFixed 11 = .ok (.iload 4, 2) := by decide +kernel
theorem dX8_sumAsFixed_13 : decode cX8_sumAsFixed 13 = .ok (.iload_n 3, 1) := by decide +kernel
theorem dX8_sumAsFixed_14 : decode cX8_sumAsFixed 14 = .ok (.if_icmp .ge 90, 3) := by decide +kernel
theorem dX8_sumAsFixed_17 : decode cX8_sumAsFixed 17 = .ok (.iconst 0, 1) := by decide +kernel
theorem dX8_sumAsFixed_18 : decode cX8_sumAsFixed 18 = .ok (.istore 5, 2) := by decide +kernel
theorem dX8_sumAsFixed_20 : decode cX8_sumAsFixed 20 = .ok (.iload 5, 2) := by decide +kernel
theorem dX8_sumAsFixed_22 : decode cX8_sumAsFixed 22 = .ok (.iload_n 3, 1) := by decide +kernel
theorem dX8_sumAsFixed_23 : decode cX8_sumAsFixed 23 = .ok (.if_icmp .ge 75, 3) := by decide +kernel
theorem dX8_sumAsFixed_26 : decode cX8_sumAsFixed 26 = .ok (.aload_n 0, 1) := by decide +kernel
theorem dX8_sumAsFixed_27 : decode cX8_sumAsFixed 27 = .ok (.getfield 15, 3) := by decide +kernel
theorem dX8_sumAsFixed_30 : decode cX8_sumAsFixed 30 = .ok (.iload 4, 2) := by decide +kernel
theorem dX8_sumAsFixed_32 : decode cX8_sumAsFixed 32 = .ok (.iaload, 1) := by decide +kernel
theorem dX8_sumAsFixed_33 : decode cX8_sumAsFixed 33 = .ok (.iconst (-1), 1) := by decide +kernel
theorem dX8_sumAsFixed_34 : decode cX8_sumAsFixed 34 = .ok (.if_icmp .eq 19, 3) := by decide +kernel
theorem dX8_sumAsFixed_37 : decode cX8_sumAsFixed 37 = .ok (.aload_n 0, 1) := by decide +kernel
theorem dX8_sumAsFixed_38 : decode cX8_sumAsFixed 38 = .ok (.getfield 15, 3) := by decide +kernel
theorem dX8_sumAsFixed_41 : decode cX8_sumAsFixed 41 = .ok (.iload 4, 2) := by decide +kernel
theorem dX8_sumAsFixed_43 : decode cX8_sumAsFixed 43 = .ok (.iaload, 1) := by decide +kernel
theorem dX8_sumAsFixed_44 : decode cX8_sumAsFixed 44 = .ok (.iload 5, 2) := by decide +kernel
theorem dX8_sumAsFixed_46 : decode cX8_sumAsFixed 46 = .ok (.if_icmp .eq 7, 3) := by decide +kernel
theorem dX8_sumAsFixed_49 : decode cX8_sumAsFixed 49 = .ok (.iconst 1, 1) := by decide +kernel
theorem dX8_sumAsFixed_50 : decode cX8_sumAsFixed 50 = .ok (.goto 4, 3) := by decide +kernel
theorem dX8_sumAsFixed_53 : decode cX8_sumAsFixed 53 = .ok (.iconst 0, 1) := by decide +kernel
theorem dX8_sumAsFixed_54 : decode cX8_sumAsFixed 54 = .ok (.istore 6, 2) := by decide +kernel
theorem dX8_sumAsFixed_56 : decode cX8_sumAsFixed 56 = .ok (.aload_n 0, 1) := by decide +kernel
theorem dX8_sumAsFixed_57 : decode cX8_sumAsFixed 57 = .ok (.getfield 18, 3) := by decide +kernel
theorem dX8_sumAsFixed_60 : decode cX8_sumAsFixed 60 = .ok (.iload 4, 2) := by decide +kernel
theorem dX8_sumAsFixed_62 : decode cX8_sumAsFixed 62 = .ok (.bipush 12, 2) := by decide +kernel
theorem dX8_sumAsFixed_64 : decode cX8_sumAsFixed 64 = .ok (.imul, 1) := by decide +kernel
theorem dX8_sumAsFixed_65 : decode cX8_sumAsFixed 65 = .ok (.iload 5, 2) := by decide +kernel
theorem dX8_sumAsFixed_67 : decode cX8_sumAsFixed 67 = .ok (.iadd, 1) := by decide +kernel
theorem dX8_sumAsFixed_68 : decode cX8_sumAsFixed 68 = .ok (.iload 6, 2) := by decide +kernel
theorem dX8_sumAsFixed_70 : decode cX8_sumAsFixed 70 = .ok (.ifCond .eq 8, 3) := by decide +kernel
theorem dX8_sumAsFixed_73 : decode cX8_sumAsFixed 73 = .ok (.ldc 67, 2) := by decide +kernel
theorem dX8_sumAsFixed_75 : decode cX8_sumAsFixed 75 = .ok (.goto 16, 3) := by decide +kernel
theorem dX8_sumAsFixed_78 : decode cX8_sumAsFixed 78 = .ok (.aload_n 1, 1) := by decide +kernel
theorem dX8_sumAsFixed_79 : decode cX8_sumAsFixed 79 = .ok (.getfield 68, 3) := by decide +kernel
theorem dX8_sumAsFixed_82 : decode cX8_sumAsFixed 82 = .ok (.iload 4, 2) := by decide +kernel
theorem dX8_sumAsFixed_84 : decode cX8_sumAsFixed 84 = .ok (.bipush 12, 2) := by decide +kernel
theorem dX8_sumAsFixed_86 : decode cX8_sumAsFixed 86 = .ok (.imul, 1) := by decide +kernel
theorem dX8_sumAsFixed_87 : decode cX8_sumAsFixed 87 = .ok (.iload 5, 2) := by decide +kernel
theorem dX8_sumAsFixed_89 : decode cX8_sumAsFixed 89 = .ok (.iadd, 1) := by decide +kernel
theorem dX8_sumAsFixed_90 : decode cX8_sumAsFixed 90 = .ok (.iaload, 1) := by decide +kernel
theorem dX8_sumAsFixed_91 : decode cX8_sumAsFixed 91 = .ok (.iastore, 1) := by decide +kernel
theorem dX8_sumAsFixed_92 : decode cX8_sumAsFixed 92 = .ok (.iinc 5 1, 3) := by decide +kernel
theorem dX8_sumAsFixed_95 : decode cX8_sumAsFixed 95 = .ok (.goto (-75), 3) := by decide +kernel
theorem dX8_sumAsFixed_98 : decode cX8_sumAsFixed 98 = .ok (.iinc 4 1, 3) := by decide +kernel
theorem dX8_sumAsFixed_101 : decode cX8_sumAsFixed 101 = .ok (.goto (-90), 3) := by decide +kernel
theorem dX8_sumAsFixed_104 : decode cX8_sumAsFixed 104 = .ok (.iconst 0, 1) := by decide +kernel
theorem dX8_sumAsFixed_105 : decode cX8_sumAsFixed 105 = .ok (.istore 4, 2) := by decide +kernel
theorem dX8_sumAsFixed_107 : decode cX8_sumAsFixed 107 = .ok (.iload_n 2, 1) := by decide +kernel
theorem dX8_sumAsFixed_108 : decode cX8_sumAsFixed 108 = .ok (.istore 5, 2) := by decide +kernel
theorem dX8_sumAsFixed_110 : decode cX8_sumAsFixed 110 = .ok (.iconst 0, 1) := by decide +kernel
theorem dX8_sumAsFixed_111 : decode cX8_sumAsFixed 111 = .ok (.istore 6, 2) := by decide +kernel
theorem dX8_sumAsFixed_113 : decode cX8_sumAsFixed 113 = .ok (.iload 6, 2) := by decide +kernel
theorem dX8_sumAsFixed_115 : decode cX8_sumAsFixed 115 = .ok (.bipush 12, 2) := by decide +kernel
theorem dX8_sumAsFixed_117 : decode cX8_sumAsFixed 117 = .ok (.if_icmp .ge 68, 3) := by decide +kernel
theorem dX8_sumAsFixed_120 : decode cX8_sumAsFixed 120 = .ok (.iload 4, 2) := by decide +kernel
theorem dX8_sumAsFixed_122 : decode cX8_sumAsFixed 122 = .ok (.aload_n 0, 1) := by decide +kernel
theorem dX8_sumAsFixed_123 : decode cX8_sumAsFixed 123 = .ok (.iload_n 3, 1) := by decide +kernel
theorem dX8_sumAsFixed_124 : decode cX8_sumAsFixed 124 = .ok (.iload 5, 2) := by decide +kernel
theorem dX8_sumAsFixed_126 : decode cX8_sumAsFixed 126 = .ok (.invokevirtual 71, 3) := by decide +kernel
theorem dX8_sumAsFixed_129 : decode cX8_sumAsFixed 129 = .ok (.iadd, 1) := by decide +kernel
theorem dX8_sumAsFixed_130 : decode cX8_sumAsFixed 130 = .ok (.istore 4, 2) := by decide +kernel
theorem dX8_sumAsFixed_132 : decode cX8_sumAsFixed 132 = .ok (.aload_n 0, 1) := by decide +kernel
theorem dX8_sumAsFixed_133 : decode cX8_sumAsFixed 133 = .ok (.iload_n 3, 1) := by decide +kernel
theorem dX8_sumAsFixed_134 : decode cX8_sumAsFixed 134 = .ok (.iload 5, 2) := by decide +kernel
theorem dX8_sumAsFixed_136 : decode cX8_sumAsFixed 136 = .ok (.invokevirtual 75, 3) := by decide +kernel
theorem dX8_sumAsFixed_139 : decode cX8_sumAsFixed 139 = .ok (.istore 7, 2) := by decide +kernel
theorem dX8_sumAsFixed_141 : decode cX8_sumAsFixed 141 = .ok (.iload 7, 2) := by decide +kernel
theorem dX8_sumAsFixed_143 : decode cX8_sumAsFixed 143 = .ok (.ifCond .ne 6, 3) := by decide +kernel
theorem dX8_sumAsFixed_146 : decode cX8_sumAsFixed 146 = .ok (.iload 4, 2) := by decide +kernel
theorem dX8_sumAsFixed_148 : decode cX8_sumAsFixed 148 = .ok (.ireturn, 1) := by decide +kernel
theorem dX8_sumAsFixed_149 : decode cX8_sumAsFixed 149 = .ok (.aload_n 0, 1) := by decide +kernel
theorem dX8_sumAsFixed_150 : decode cX8_sumAsFixed 150 = .ok (.iload_n 3, 1) := by decide +kernel
theorem dX8_sumAsFixed_151 : decode cX8_sumAsFixed 151 = .ok (.iload 7, 2) := by decide +kernel
theorem dX8_sumAsFixed_153 : decode cX8_sumAsFixed 153 = .ok (.invokevirtual 78, 3) := by decide +kernel
theorem dX8_sumAsFixed_156 : decode cX8_sumAsFixed 156 = .ok (.istore 8, 2) := by decide +kernel
theorem dX8_sumAsFixed_158 : decode cX8_sumAsFixed 158 = .ok (.aload_n 0, 1) := by decide +kernel
theorem dX8_sumAsFixed_159 : decode cX8_sumAsFixed 159 = .ok (.iload_n 3, 1) := by decide +kernel
theorem dX8_sumAsFixed_160 : decode cX8_sumAsFixed 160 = .ok (.iload 8, 2) := by decide +kernel
theorem dX8_sumAsFixed_162 : decode cX8_sumAsFixed 162 = .ok (.iload 5, 2) := by decide +kernel
theorem dX8_sumAsFixed_164 : decode cX8_sumAsFixed 164 = .ok (.invokevirtual 81, 3) := by decide +kernel
theorem dX8_sumAsFixed_167 : decode cX8_sumAsFixed 167 = .ok (.aload_n 0, 1) := by decide +kernel
theorem dX8_sumAsFixed_168 : decode cX8_sumAsFixed 168 = .ok (.getfield 30, 3) := by decide +kernel
theorem dX8_sumAsFixed_171 : decode cX8_sumAsFixed 171 = .ok (.iload 5, 2) := by decide +kernel
theorem dX8_sumAsFixed_173 : decode cX8_sumAsFixed 173 = .ok (.iaload, 1) := by decide +kernel
theorem dX8_sumAsFixed_174 : decode cX8_sumAsFixed 174 = .ok (.istore 5, 2) := by decide +kernel
theorem dX8_sumAsFixed_176 : decode cX8_sumAsFixed 176 = .ok (.iload 8, 2) := by decide +kernel
theorem dX8_sumAsFixed_178 : decode cX8_sumAsFixed 178 = .ok (.istore_n 3, 1) := by decide +kernel
theorem dX8_sumAsFixed_179 : decode cX8_sumAsFixed 179 = .ok (.iinc 6 1, 3) := by decide +kernel
theorem dX8_sumAsFixed_182 : decode cX8_sumAsFixed 182 = .ok (.goto (-69), 3) := by decide +kernel
theorem dX8_sumAsFixed_185 : decode cX8_sumAsFixed 185 = .ok (.iload 4, 2) := by decide +kernel
theorem dX8_sumAsFixed_187 : decode cX8_sumAsFixed 187 = .ok (.ireturn, 1) := by decide +kernel
theorem b_X8_sumAsFixed_0 {j : Nat} {x2 : Int} {σ : St} {Q : Res → St → Prop} (h : WP mX8_sumAsFixed 11 [vR 9 0, vR 2 j, vI x2, vI (σ 5 j 0), vI 0, vU, vU, vU, vU] [] σ Q) : WP mX8_sumAsFixed 0 [vR 9 0, vR 2 j, vI x2, vU, vU, vU, vU, vU, vU] [] σ Q := by
  refine wp_aload_n dX8_sumAsFixed_0 rfl rfl ?_
  refine wp_getR dX8_sumAsFixed_1 fl_CustomValley_Trees_50 rfl rfl ?_
  refine wp_getI dX8_sumAsFixed_4 fl_CustomValley_Trees_56 rfl rfl rfl ?_
  refine wp_istore_n dX8_sumAsFixed_7 rfl (by decide) rfl rfl ?_
  refine wp_iconst dX8_sumAsFixed_8 rfl ?_
  refine wp_istore dX8_sumAsFixed_9 (by decide) rfl rfl ?_
  exact h
theorem b_X8_sumAsFixed_11 {j : Nat} {x2 : Int} {x3 : Int} {x4 : Int} {σ : St} {Q : Res → St → Prop} (h : ((x3 ≤ x4) → (WP mX8_sumAsFixed 113 [vR 9 0, vU, vU, vI x3, vI 0, vI x2, vI 0, vU, vU] [] σ Q)) ∧ ((x4 < x3) → (WP mX8_sumAsFixed 20 [vR 9 0, vR 2 j, vI x2, vI x3, vI x4, vI 0, vU, vU, vU] [] σ Q))) : WP mX8_sumAsFixed 11 [vR 9 0, vR 2 j, vI x2, vI x3, vI x4, vU, vU, vU, vU] [] σ Q := by
  refine wp_iload dX8_sumAsFixed_11 rfl ?_
  refine wp_iload_n dX8_sumAsFixed_13 rfl rfl ?_
  refine wp_icmp_ge (tgt := 104) dX8_sumAsFixed_14 (by decide) (fun hc => ?_) (fun hc => ?_)
  · replace h := h.1 hc
    refine wp_iconst dX8_sumAsFixed_104 rfl ?_
    refine wp_istore dX8_sumAsFixed_105 (by decide) rfl rfl ?_
    refine wp_iload_n dX8_sumAsFixed_107 rfl rfl ?_
    refine wp_istore dX8_sumAsFixed_108 (by decide) rfl rfl ?_
    refine wp_iconst dX8_sumAsFixed_110 rfl ?_
    refine wp_istore dX8_sumAsFixed_111 (by decide) rfl rfl ?_
    exact wp_drop (als' := [vR 9 0, vU, vU, vI x3, vI 0, vI x2, vI 0, vU, vU]) (lle_c (Or.inl rfl) (lle_c (Or.inr rfl) (lle_c (Or.inr rfl) (lle_c (Or.inl rfl) (lle_c (Or.inl rfl) (lle_c (Or.inl rfl) (lle_c (Or.inl rfl) (lle_c (Or.inl rfl) (lle_c (Or.inl rfl) lle_n))))))))) h
  · replace h := h.2 hc
    refine wp_iconst dX8_sumAsFixed_17 rfl ?_
    refine wp_istore dX8_sumAsFixed_18 (by decide) rfl rfl ?_
    exact h
theorem b_X8_sumAsFixed_20 {j : Nat} {x2 : Int} {x3 : Int} {x4 : Int} {x5 : Int} {σ : St} {Q : Res → St → Prop} (h : ((x3 ≤ x5) → ((in32 (x4 + 1)) ∧ (WP mX8_sumAsFixed 11 [vR 9 0, vR 2 j, vI x2, vI x3, vI (x4 + 1), vU, vU, vU, vU] [] σ Q))) ∧ ((x5 < x3) → ((0 ≤ x4 ∧ x4 < 12) ∧ ((((σ 48 0 x4.toNat) = (-1)) → (WP mX8_sumAsFixed 53 [vR 9 0, vR 2 j, vI x2, vI x3, vI x4, vI x5, vU, vU, vU] [] σ Q)) ∧ (((σ 48 0 x4.toNat) ≠ (-1)) → ((0 ≤ x4 ∧ x4 < 12) ∧ ((((σ 48 0 x4.toNat) = x5) → (WP mX8_sumAsFixed 53 [vR 9 0, vR 2 j, vI x2, vI x3, vI x4, vI x5, vU, vU, vU] [] σ Q)) ∧ (((σ 48 0 x4.toNat) ≠ x5) → (WP mX8_sumAsFixed 54 [vR 9 0, vR 2 j, vI x2, vI x3, vI x4, vI x5, vU, vU, vU] [vI 1] σ Q))))))))) : WP mX8_sumAsFixed 20 [vR 9 0, vR 2 j, vI x2, vI x3, vI x4, vI x5, vU, vU, vU] [] σ Q := by
  refine wp_iload dX8_sumAsFixed_20 rfl ?_
  refine wp_iload_n dX8_sumAsFixed_22 rfl rfl ?_
  refine wp_icmp_ge (tgt := 98) dX8_sumAsFixed_23 (by decide) (fun hc => ?_) (fun hc => ?_)
  · replace h := h.1 hc
    have s1 := h.1
    replace h := h.2
    refine wp_iinc dX8_sumAsFixed_98 rfl (by decide) rfl rfl ?_ (h1 := s1.1) (h2 := s1.2)
    refine wp_goto (tgt := 11) dX8_sumAsFixed_101 (by decide) ?_
    exact wp_drop (als' := [vR 9 0, vR 2 j, vI x2, vI x3, vI (x4 + 1), vU, vU, vU, vU]) (lle_c (Or.inl rfl) (lle_c (Or.inl rfl) (lle_c (Or.inl rfl) (lle_c (Or.inl rfl) (lle_c (Or.inl rfl) (lle_c (Or.inr rfl) (lle_c (Or.inl rfl) (lle_c (Or.inl rfl) (lle_c (Or.inl rfl) lle_n))))))))) h
  · replace h := h.2 hc
    refine wp_aload_n dX8_sumAsFixed_26 rfl rfl ?_
    refine wp_getR dX8_sumAsFixed_27 fl_CustomValley_Trees_15 rfl rfl ?_
    refine wp_iload dX8_sumAsFixed_30 rfl ?_
    have s3 := h.1
    replace h := h.2
    refine wp_iaload dX8_sumAsFixed_32 rfl rfl s3.1 s3.2 ?_
    refine wp_iconst dX8_sumAsFixed_33 rfl ?_
    refine wp_icmp_eq (tgt := 53) dX8_sumAsFixed_34 (by decide) (fun hc => ?_) (fun hc => ?_)
    · replace h := h.1 hc
      exact h
    · replace h := h.2 hc
      refine wp_aload_n dX8_sumAsFixed_37 rfl rfl ?_
      refine wp_getR dX8_sumAsFixed_38 fl_CustomValley_Trees_15 rfl rfl ?_
      refine wp_iload dX8_sumAsFixed_41 rfl ?_
      have s2 := h.1
      replace h := h.2
      refine wp_iaload dX8_sumAsFixed_43 rfl rfl s2.1 s2.2 ?_
      refine wp_iload dX8_sumAsFixed_44 rfl ?_
      refine wp_icmp_eq (tgt := 53) dX8_sumAsFixed_46 (by decide) (fun hc => ?_) (fun hc => ?_)
      · replace h := h.1 hc
        exact h
      · replace h := h.2 hc
        refine wp_iconst dX8_sumAsFixed_49 rfl ?_
        refine wp_goto (tgt := 54) dX8_sumAsFixed_50 (by decide) ?_
        exact h
theorem b_X8_sumAsFixed_53 {j : Nat} {x2 : Int} {x3 : Int} {x4 : Int} {x5 : Int} {σ : St} {Q : Res → St → Prop} (h : WP mX8_sumAsFixed 54 [vR 9 0, vR 2 j, vI x2, vI x3, vI x4, vI x5, vU, vU, vU] [vI 0] σ Q) : WP mX8_sumAsFixed 53 [vR 9 0, vR 2 j, vI x2, vI x3, vI x4, vI x5, vU, vU, vU] [] σ Q := by
  refine wp_iconst dX8_sumAsFixed_53 rfl ?_
  exact h
theorem b_X8_sumAsFixed_54 {j : Nat} {x2 : Int} {x3 : Int} {x4 : Int} {x5 : Int} {t0 : Int} {σ : St} {Q : Res → St → Prop} (h : (in32 (x4 * 12)) ∧ ((in32 ((x4 * 12) + x5)) ∧ (((t0 = 0) → ((in32 (x4 * 12)) ∧ ((in32 ((x4 * 12) + x5)) ∧ ((0 ≤ (x4 * 12) + x5 ∧ ((x4 * 12) + x5) < 144) ∧ ((0 ≤ (x4 * 12) + x5 ∧ ((x4 * 12) + x5) < 144) ∧ ((in32 (x5 + 1)) ∧ (WP mX8_sumAsFixed 20 [vR 9 0, vR 2 j, vI x2, vI x3, vI x4, vI (x5 + 1), vU, vU, vU] [] (up σ 49 0 (((x4 * 12) + x5).toNat) (σ 22 j (((x4 * 12) + x5).toNat))) Q))))))) ∧ ((t0 ≠ 0) → ((0 ≤ (x4 * 12) + x5 ∧ ((x4 * 12) + x5) < 144) ∧ ((in32 (x5 + 1)) ∧ (WP mX8_sumAsFixed 20 [vR 9 0, vR 2 j, vI x2, vI x3, vI x4, vI (x5 + 1), vU, vU, vU] [] (up σ 49 0 (((x4 * 12) + x5).toNat) 1000000) Q))))))) : WP mX8_sumAsFixed 54 [vR 9 0, vR 2 j, vI x2, vI x3, vI x4, vI x5, vU, vU, vU] [vI t0] σ Q := by
  refine wp_istore dX8_sumAsFixed_54 (by decide) rfl rfl ?_
  refine wp_aload_n dX8_sumAsFixed_56 rfl rfl ?_
  refine wp_getR dX8_sumAsFixed_57 fl_CustomValley_Trees_18 rfl rfl ?_
  refine wp_iload dX8_sumAsFixed_60 rfl ?_
  refine wp_bipush dX8_sumAsFixed_62 rfl ?_
  have s9 := h.1
  replace h := h.2
  refine wp_imul dX8_sumAsFixed_64 ?_ (h1 := s9.1) (h2 := s9.2)
  refine wp_iload dX8_sumAsFixed_65 rfl ?_
  have s8 := h.1
  replace h := h.2
  refine wp_iadd dX8_sumAsFixed_67 ?_ (h1 := s8.1) (h2 := s8.2)
  refine wp_iload dX8_sumAsFixed_68 rfl ?_
  refine wp_if_eq (tgt := 78) dX8_sumAsFixed_70 (by decide) (fun hc => ?_) (fun hc => ?_)
  · replace h := h.1 hc
    refine wp_aload_n dX8_sumAsFixed_78 rfl rfl ?_
    refine wp_getR dX8_sumAsFixed_79 fl_CustomValley_Trees_68 rfl rfl ?_
    refine wp_iload dX8_sumAsFixed_82 rfl ?_
    refine wp_bipush dX8_sumAsFixed_84 rfl ?_
    have s5 := h.1
    replace h := h.2
    refine wp_imul dX8_sumAsFixed_86 ?_ (h1 := s5.1) (h2 := s5.2)
    refine wp_iload dX8_sumAsFixed_87 rfl ?_
    have s4 := h.1
    replace h := h.2
    refine wp_iadd dX8_sumAsFixed_89 ?_ (h1 := s4.1) (h2 := s4.2)
    have s3 := h.1
    replace h := h.2
    refine wp_iaload dX8_sumAsFixed_90 rfl rfl s3.1 s3.2 ?_
    have s2 := h.1
    replace h := h.2
    refine wp_iastore dX8_sumAsFixed_91 rfl rfl s2.1 s2.2 ?_
    have s1 := h.1
    replace h := h.2
    refine wp_iinc dX8_sumAsFixed_92 rfl (by decide) rfl rfl ?_ (h1 := s1.1) (h2 := s1.2)
    refine wp_goto (tgt := 20) dX8_sumAsFixed_95 (by decide) ?_
    exact wp_drop (als' := [vR 9 0, vR 2 j, vI x2, vI x3, vI x4, vI (x5 + 1), vU, vU, vU]) (lle_c (Or.inl rfl) (lle_c (Or.inl rfl) (lle_c (Or.inl rfl) (lle_c (Or.inl rfl) (lle_c (Or.inl rfl) (lle_c (Or.inl rfl) (lle_c (Or.inr rfl) (lle_c (Or.inl rfl) (lle_c (Or.inl rfl) lle_n))))))))) h
  · replace h := h.2 hc
    refine wp_ldc (n := 1000000) dX8_sumAsFixed_73 ck_CustomValley_Trees_67 rfl ?_
    refine wp_goto (tgt := 91) dX8_sumAsFixed_75 (by decide) ?_
    have s7 := h.1
    replace h := h.2
    refine wp_iastore dX8_sumAsFixed_91 rfl rfl s7.1 s7.2 ?_
    have s6 := h.1
    replace h := h.2
    refine wp_iinc dX8_sumAsFixed_92 rfl (by decide) rfl rfl ?_ (h1 := s6.1) (h2 := s6.2)
    refine wp_goto (tgt := 20) dX8_sumAsFixed_95 (by decide) ?_
    exact wp_drop (als' := [vR 9 0, vR 2 j, vI x2, vI x3, vI x4, vI (x5 + 1), vU, vU, vU]) (lle_c (Or.inl rfl) (lle_c (Or.inl rfl) (lle_c (Or.inl rfl) (lle_c (Or.inl rfl) (lle_c (Or.inl rfl) (lle_c (Or.inl rfl) (lle_c (Or.inr rfl) (lle_c (Or.inl rfl) (lle_c (Or.inl rfl) lle_n))))))))) h
theorem b_X8_sumAsFixed_113 {x3 : Int} {x4 : Int} {x5 : Int} {x6 : Int} {σ : St} {Q : Res → St → Prop} (h : ((12 ≤ x6) → (Q (.inl (some (vI x4))) σ)) ∧ ((x6 < 12) → (WP mX8_chooseCheapest 0 [vR 9 0, vI x3, vI x5, vU, vU, vU] [] σ (CT mX8_sumAsFixed 129 [vR 9 0, vU, vU, vI x3, vU, vI x5, vI x6, vU, vU] [vI x4] Q)))) : WP mX8_sumAsFixed 113 [vR 9 0, vU, vU, vI x3, vI x4, vI x5, vI x6, vU, vU] [] σ Q := by
  refine wp_iload dX8_sumAsFixed_113 rfl ?_
  refine wp_bipush dX8_sumAsFixed_115 rfl ?_
  refine wp_icmp_ge (tgt := 185) dX8_sumAsFixed_117 (by decide) (fun hc => ?_) (fun hc => ?_)
  · replace h := h.1 hc
    refine wp_iload dX8_sumAsFixed_185 rfl ?_
    exact wp_iret dX8_sumAsFixed_187 rfl h
  · replace h := h.2 hc
    refine wp_iload dX8_sumAsFixed_120 rfl ?_
    refine wp_aload_n dX8_sumAsFixed_122 rfl rfl ?_
    refine wp_iload_n dX8_sumAsFixed_123 rfl rfl ?_
    refine wp_iload dX8_sumAsFixed_124 rfl ?_
    refine wp_invV (N := mX8_chooseCheapest) [vI x3, vI x5] dX8_sumAsFixed_126 ml_CustomValley_Trees_71 mvX8_chooseCheapest rfl rfl rfl rfl rfl (Nat.le_of_ble_eq_true rfl) (Nat.le_of_ble_eq_true rfl) (by decide) (by decide) (by decide) ?_
    exact WP.mono h (ct_drop (lle_c (Or.inl rfl) (lle_c (Or.inl rfl) (lle_c (Or.inl rfl) (lle_c (Or.inl rfl) (lle_c (Or.inr rfl) (lle_c (Or.inl rfl) (lle_c (Or.inl rfl) (lle_c (Or.inl rfl) (lle_c (Or.inl rfl) lle_n))))))))))
theorem b_X8_sumAsFixed_129 {x3 : Int} {x5 : Int} {x6 : Int} {t0 : Int} {t1 : Int} {σ : St} {Q : Res → St → Prop} (h : (in32 (t1 + t0)) ∧ (WP mX8_nameRings 0 [vR 9 0, vI x3, vI x5, vU, vU, vU, vU] [] σ (CT mX8_sumAsFixed 139 [vR 9 0, vU, vU, vI x3, vI (t1 + t0), vI x5, vI x6, vU, vU] [] Q))) : WP mX8_sumAsFixed 129 [vR 9 0, vU, vU, vI x3, vU, vI x5, vI x6, vU, vU] [vI t0, vI t1] σ Q := by
  have s1 := h.1
  replace h := h.2
  refine wp_iadd dX8_sumAsFixed_129 ?_ (h1 := s1.1) (h2 := s1.2)
  refine wp_istore dX8_sumAsFixed_130 (by decide) rfl rfl ?_
  refine wp_aload_n dX8_sumAsFixed_132 rfl rfl ?_
  refine wp_iload_n dX8_sumAsFixed_133 rfl rfl ?_
  refine wp_iload dX8_sumAsFixed_134 rfl ?_
  refine wp_invV (N := mX8_nameRings) [vI x3, vI x5] dX8_sumAsFixed_136 ml_CustomValley_Trees_75 mvX8_nameRings rfl rfl rfl rfl rfl (Nat.le_of_ble_eq_true rfl) (Nat.le_of_ble_eq_true rfl) (by decide) (by decide) (by decide) ?_
  exact h
theorem b_X8_sumAsFixed_139 {x3 : Int} {x4 : Int} {x5 : Int} {x6 : Int} {t0 : Int} {σ : St} {Q : Res → St → Prop} (h : ((t0 ≠ 0) → (WP mX8_nameOthers 0 [vR 9 0, vI x3, vI t0, vU, vU] [] σ (CT mX8_sumAsFixed 156 [vR 9 0, vU, vU, vI x3, vI x4, vI x5, vI x6, vU, vU] [] Q))) ∧ ((t0 = 0) → (Q (.inl (some (vI x4))) σ))) : WP mX8_sumAsFixed 139 [vR 9 0, vU, vU, vI x3, vI x4, vI x5, vI x6, vU, vU] [vI t0] σ Q := by
  refine wp_istore dX8_sumAsFixed_139 (by decide) rfl rfl ?_
  refine wp_iload dX8_sumAsFixed_141 rfl ?_
  refine wp_if_ne (tgt := 149) dX8_sumAsFixed_143 (by decide) (fun hc => ?_) (fun hc => ?_)
  · replace h := h.1 hc
    refine wp_aload_n dX8_sumAsFixed_149 rfl rfl ?_
    refine wp_iload_n dX8_sumAsFixed_150 rfl rfl ?_
    refine wp_iload dX8_sumAsFixed_151 rfl ?_
    refine wp_invV (N := mX8_nameOthers) [vI x3, vI t0] dX8_sumAsFixed_153 ml_CustomValley_Trees_78 mvX8_nameOthers rfl rfl rfl rfl rfl (Nat.le_of_ble_eq_true rfl) (Nat.le_of_ble_eq_true rfl) (by decide) (by decide) (by decide) ?_
    exact WP.mono h (ct_drop (lle_c (Or.inl rfl) (lle_c (Or.inl rfl) (lle_c (Or.inl rfl) (lle_c (Or.inl rfl) (lle_c (Or.inl rfl) (lle_c (Or.inl rfl) (lle_c (Or.inl rfl) (lle_c (Or.inr rfl) (lle_c (Or.inl rfl) lle_n))))))))))
  · replace h := h.2 hc
    refine wp_iload dX8_sumAsFixed_146 rfl ?_
    exact wp_iret dX8_sumAsFixed_148 rfl h
theorem b_X8_sumAsFixed_156 {x3 : Int} {x4 : Int} {x5 : Int} {x6 : Int} {t0 : Int} {σ : St} {Q : Res → St → Prop} (h : WP mX8_drawTogether 0 [vR 9 0, vI x3, vI t0, vI x5, vU, vU, vU, vU] [] σ (CT mX8_sumAsFixed 167 [vR 9 0, vU, vU, vU, vI x4, vI x5, vI x6, vU, vI t0] [] Q)) : WP mX8_sumAsFixed 156 [vR 9 0, vU, vU, vI x3, vI x4, vI x5, vI x6, vU, vU] [vI t0] σ Q := by
  refine wp_istore dX8_sumAsFixed_156 (by decide) rfl rfl ?_
  refine wp_aload_n dX8_sumAsFixed_158 rfl rfl ?_
  refine wp_iload_n dX8_sumAsFixed_159 rfl rfl ?_
  refine wp_iload dX8_sumAsFixed_160 rfl ?_
  refine wp_iload dX8_sumAsFixed_162 rfl ?_
  refine wp_invV (N := mX8_drawTogether) [vI x3, vI t0, vI x5] dX8_sumAsFixed_164 ml_CustomValley_Trees_81 mvX8_drawTogether rfl rfl rfl rfl rfl (Nat.le_of_ble_eq_true rfl) (Nat.le_of_ble_eq_true rfl) (by decide) (by decide) (by decide) ?_
  exact WP.mono h (ct_drop (lle_c (Or.inl rfl) (lle_c (Or.inl rfl) (lle_c (Or.inl rfl) (lle_c (Or.inr rfl) (lle_c (Or.inl rfl) (lle_c (Or.inl rfl) (lle_c (Or.inl rfl) (lle_c (Or.inl rfl) (lle_c (Or.inl rfl) lle_n))))))))))
theorem b_X8_sumAsFixed_167 {x4 : Int} {x5 : Int} {x6 : Int} {x8 : Int} {σ : St} {Q : Res → St → Prop} (h : (0 ≤ x5 ∧ x5 < 12) ∧ ((in32 (x6 + 1)) ∧ (WP mX8_sumAsFixed 113 [vR 9 0, vU, vU, vI x8, vI x4, vI (σ 53 0 x5.toNat), vI (x6 + 1), vU, vU] [] σ Q))) : WP mX8_sumAsFixed 167 [vR 9 0, vU, vU, vU, vI x4, vI x5, vI x6, vU, vI x8] [] σ Q := by
  refine wp_aload_n dX8_sumAsFixed_167 rfl rfl ?_
  refine wp_getR dX8_sumAsFixed_168 fl_CustomValley_Trees_30 rfl rfl ?_
  refine wp_iload dX8_sumAsFixed_171 rfl ?_
  have s2 := h.1
  replace h := h.2
  refine wp_iaload dX8_sumAsFixed_173 rfl rfl s2.1 s2.2 ?_
  refine wp_istore dX8_sumAsFixed_174 (by decide) rfl rfl ?_
  refine wp_iload dX8_sumAsFixed_176 rfl ?_
  refine wp_istore_n dX8_sumAsFixed_178 rfl (by decide) rfl rfl ?_
  have s1 := h.1
  replace h := h.2
  refine wp_iinc dX8_sumAsFixed_179 rfl (by decide) rfl rfl ?_ (h1 := s1.1) (h2 := s1.2)
  refine wp_goto (tgt := 113) dX8_sumAsFixed_182 (by decide) ?_
  exact wp_drop (als' := [vR 9 0, vU, vU, vI x8, vI x4, vI (σ 53 0 x5.toNat), vI (x6 + 1), vU, vU]) (lle_c (Or.inl rfl) (lle_c (Or.inl rfl) (lle_c (Or.inl rfl) (lle_c (Or.inl rfl) (lle_c (Or.inl rfl) (lle_c (Or.inl rfl) (lle_c (Or.inl rfl) (lle_c (Or.inl rfl) (lle_c (Or.inr rfl) lle_n))))))))) h
theorem dX0_pour_0 : decode cX0_pour 0 = .ok (.aload_n 0, 1) := by decide +kernel
theorem dX0_pour_1 : decode cX0_pour 1 = .ok (.getfield 9, 3) := by decide +kernel
theorem dX0_pour_4 : decode cX0_pour 4 = .ok (.iconst 0, 1) := by decide +kernel
theorem dX0_pour_5 : decode cX0_pour 5 = .ok (.invokestatic 18, 3) := by decide +kernel
theorem dX0_pour_8 : decode cX0_pour 8 = .ok (.aload_n 0, 1) := by decide +kernel
theorem dX0_pour_9 : decode cX0_pour 9 = .ok (.getfield 9, 3) := by decide +kernel
theorem dX0_pour_12 : decode cX0_pour 12 = .ok (.iload_n 2, 1) := by decide +kernel
theorem dX0_pour_13 : decode cX0_pour 13 = .ok (.ldc 24, 2) := by decide +kernel
theorem dX0_pour_15 : decode cX0_pour 15 = .ok (.iastore, 1) := by decide +kernel
theorem dX0_pour_16 : decode cX0_pour 16 = .ok (.aload_n 0, 1) := by decide +kernel
theorem dX0_pour_17 : decode cX0_pour 17 = .ok (.iconst 1, 1) := by decide +kernel
theorem dX0_pour_18 : decode cX0_pour 18 = .ok (.putfield 25, 3) := by decide +kernel
theorem dX0_pour_21 : decode cX0_pour 21 = .ok (.aload_n 1, 1) := by decide +kernel
theorem dX0_pour_22 : decode cX0_pour 22 = .ok (.getfield 29, 3) := by decide +kernel
theorem dX0_pour_25 : decode cX0_pour 25 = .ok (.getfield 35, 3) := by decide +kernel
theorem dX0_pour_28 : decode cX0_pour 28 = .ok (.ifCond .le 7, 3) := by decide +kernel
theorem dX0_pour_31 : decode cX0_pour 31 = .ok (.iconst 1, 1) := by decide +kernel
theorem dX0_pour_32 : decode cX0_pour 32 = .ok (.goto 4, 3) := by decide +kernel
theorem dX0_pour_35 : decode cX0_pour 35 = .ok (.iconst 0, 1) := by decide +kernel
theorem dX0_pour_36 : decode cX0_pour 36 = .ok (.istore 5, 2) := by decide +kernel
theorem dX0_pour_38 : decode cX0_pour 38 = .ok (.iconst 0, 1) := by decide +kernel
theorem dX0_pour_39 : decode cX0_pour 39 = .ok (.istore 6, 2) := by decide +kernel
theorem dX0_pour_41 : decode cX0_pour 41 = .ok (.iload 6, 2) := by decide +kernel
theorem dX0_pour_43 : decode cX0_pour 43 = .ok (.iload_n 3, 1) := by decide +kernel
theorem dX0_pour_44 : decode cX0_pour 44 = .ok (.if_icmp .ge 23, 3) := by decide +kernel
theorem dX0_pour_47 : decode cX0_pour 47 = .ok (.iload 5, 2) := by decide +kernel
theorem dX0_pour_49 : decode cX0_pour 49 = .ok (.ifCond .eq 18, 3) := by decide +kernel
theorem dX0_pour_52 : decode cX0_pour 52 = .ok (.aload_n 0, 1) := by decide +kernel
theorem dX0_pour_53 : decode cX0_pour 53 = .ok (.aload_n 1, 1) := by decide +kernel
theorem dX0_pour_54 : decode cX0_pour 54 = .ok (.iload 4, 2) := by decide +kernel
theorem dX0_pour_56 : decode cX0_pour 56 = .ok (.invokevirtual 41, 3) := by decide +kernel
theorem dX0_pour_59 : decode cX0_pour 59 = .ok (.istore 5, 2) := by decide +kernel
theorem dX0_pour_61 : decode cX0_pour 61 = .ok (.iinc 6 1, 3) := by decide +kernel
theorem dX0_pour_64 : decode cX0_pour 64 = .ok (.goto (-23), 3) := by decide +kernel
theorem dX0_pour_67 : decode cX0_pour 67 = .ok (.return_, 1) := by decide +kernel
theorem b_X0_pour_0 {j : Nat} {x2 : Int} {x3 : Int} {x4 : Int} {σ : St} {Q : Res → St → Prop} (h : WP mJ7_fill_53178 0 [vR 20 0, vI 0, vU, vU] [] σ (CT mX0_pour 8 [vR 1 0, vR 2 j, vI x2, vI x3, vI x4, vU, vU] [] Q)) : WP mX0_pour 0 [vR 1 0, vR 2 j, vI x2, vI x3, vI x4, vU, vU] [] σ Q := by
  refine wp_aload_n dX0_pour_0 rfl rfl ?_
  refine wp_getR dX0_pour_1 fl_CustomValley_Flow_9 rfl rfl ?_
  refine wp_iconst dX0_pour_4 rfl ?_
  refine wp_invS (N := mJ7_fill_53178) [vR 20 0, vI 0] dX0_pour_5 ml_CustomValley_Flow_18 mvJ7_fill_53178 rfl rfl rfl (Nat.le_of_ble_eq_true rfl) (Nat.le_of_ble_eq_true rfl) (by decide) (by decide) ?_
  exact h
theorem b_X0_pour_8 {j : Nat} {x2 : Int} {x3 : Int} {x4 : Int} {σ : St} {Q : Res → St → Prop} (h : (0 ≤ x2 ∧ x2 < 1024) ∧ ((((σ 10 j 10) ≤ 0) → (WP mX0_pour 41 [vR 1 0, vR 2 j, vU, vI x3, vI x4, vI 0, vI 0] [] (up (up σ 20 0 x2.toNat 1000000000) 1 0 0 1) Q)) ∧ ((0 < (σ 10 j 10)) → (WP mX0_pour 41 [vR 1 0, vR 2 j, vU, vI x3, vI x4, vI 1, vI 0] [] (up (up σ 20 0 x2.toNat 1000000000) 1 0 0 1) Q)))) : WP mX0_pour 8 [vR 1 0, vR 2 j, vI x2, vI x3, vI x4, vU, vU] [] σ Q := by
  refine wp_aload_n dX0_pour_8 rfl rfl ?_
  refine wp_getR dX0_pour_9 fl_CustomValley_Flow_9 rfl rfl ?_
  refine wp_iload_n dX0_pour_12 rfl rfl ?_
  refine wp_ldc (n := 1000000000) dX0_pour_13 ck_CustomValley_Flow_24 rfl ?_
  have s1 := h.1
  replace h := h.2
  refine wp_iastore dX0_pour_15 rfl rfl s1.1 s1.2 ?_
  refine wp_aload_n dX0_pour_16 rfl rfl ?_
  refine wp_iconst dX0_pour_17 rfl ?_
  refine wp_putZ dX0_pour_18 fp_CustomValley_Flow_25 rfl rfl rfl (by decide) ?_
  refine wp_aload_n dX0_pour_21 rfl rfl ?_
  refine wp_getR dX0_pour_22 fl_CustomValley_Flow_29 rfl rfl ?_
  refine wp_getI dX0_pour_25 fl_CustomValley_Flow_35 rfl rfl rfl ?_
  rw [show (up (up σ 20 0 x2.toNat 1000000000) 1 0 0 1) 10 j 10 = σ 10 j 10 from by simp [up]]
  refine wp_if_le (tgt := 35) dX0_pour_28 (by decide) (fun hc => ?_) (fun hc => ?_)
  · replace h := h.1 hc
    refine wp_iconst dX0_pour_35 rfl ?_
    refine wp_istore dX0_pour_36 (by decide) rfl rfl ?_
    refine wp_iconst dX0_pour_38 rfl ?_
    refine wp_istore dX0_pour_39 (by decide) rfl rfl ?_
    exact wp_drop (als' := [vR 1 0, vR 2 j, vU, vI x3, vI x4, vI 0, vI 0]) (lle_c (Or.inl rfl) (lle_c (Or.inl rfl) (lle_c (Or.inr rfl) (lle_c (Or.inl rfl) (lle_c (Or.inl rfl) (lle_c (Or.inl rfl) (lle_c (Or.inl rfl) lle_n))))))) h
  · replace h := h.2 hc
    refine wp_iconst dX0_pour_31 rfl ?_
    refine wp_goto (tgt := 36) dX0_pour_32 (by decide) ?_
    refine wp_istore dX0_pour_36 (by decide) rfl rfl ?_
    refine wp_iconst dX0_pour_38 rfl ?_
    refine wp_istore dX0_pour_39 (by decide) rfl rfl ?_
    exact wp_drop (als' := [vR 1 0, vR 2 j, vU, vI x3, vI x4, vI 1, vI 0]) (lle_c (Or.inl rfl) (lle_c (Or.inl rfl) (lle_c (Or.inr rfl) (lle_c (Or.inl rfl) (lle_c (Or.inl rfl) (lle_c (Or.inl rfl) (lle_c (Or.inl rfl) lle_n))))))) h
theorem b_X0_pour_41 {j : Nat} {x3 : Int} {x4 : Int} {x5 : Int} {x6 : Int} {σ : St} {Q : Res → St → Prop} (h : ((x3 ≤ x6) → (Q (.inl none) σ)) ∧ ((x6 < x3) → (((x5 = 0) → (Q (.inl none) σ)) ∧ ((x5 ≠ 0) → (WP mX0_flowOnce 0 [vR 1 0, vR 2 j, vI x4, vU, vU, vU, vU] [] σ (CT mX0_pour 59 [vR 1 0, vR 2 j, vU, vI x3, vI x4, vU, vI x6] [] Q)))))) : WP mX0_pour 41 [vR 1 0, vR 2 j, vU, vI x3, vI x4, vI x5, vI x6] [] σ Q := by
  refine wp_iload dX0_pour_41 rfl ?_
  refine wp_iload_n dX0_pour_43 rfl rfl ?_
  refine wp_icmp_ge (tgt := 67) dX0_pour_44 (by decide) (fun hc => ?_) (fun hc => ?_)
  · replace h := h.1 hc
    exact wp_ret dX0_pour_67 rfl h
  · replace h := h.2 hc
    refine wp_iload dX0_pour_47 rfl ?_
    refine wp_if_eq (tgt := 67) dX0_pour_49 (by decide) (fun hc => ?_) (fun hc => ?_)
    · replace h := h.1 hc
      exact wp_ret dX0_pour_67 rfl h
    · replace h := h.2 hc
      refine wp_aload_n dX0_pour_52 rfl rfl ?_
      refine wp_aload_n dX0_pour_53 rfl rfl ?_
      refine wp_iload dX0_pour_54 rfl ?_
      refine wp_invV (N := mX0_flowOnce) [vR 2 j, vI x4] dX0_pour_56 ml_CustomValley_Flow_41 mvX0_flowOnce rfl rfl rfl rfl rfl (Nat.le_of_ble_eq_true rfl) (Nat.le_of_ble_eq_true rfl) (by decide) (by decide) (by decide) ?_
      exact WP.mono h (ct_drop (lle_c (Or.inl rfl) (lle_c (Or.inl rfl) (lle_c (Or.inl rfl) (lle_c (Or.inl rfl) (lle_c (Or.inl rfl) (lle_c (Or.inr rfl) (lle_c (Or.inl rfl) lle_n))))))))
theorem b_X0_pour_59 {j : Nat} {x3 : Int} {x4 : Int} {x6 : Int} {t0 : Int} {σ : St} {Q : Res → St → Prop} (h : (in32 (x6 + 1)) ∧ (WP mX0_pour 41 [vR 1 0, vR 2 j, vU, vI x3, vI x4, vI t0, vI (x6 + 1)] [] σ Q)) : WP mX0_pour 59 [vR 1 0, vR 2 j, vU, vI x3, vI x4, vU, vI x6] [vI t0] σ Q := by
  refine wp_istore dX0_pour_59 (by decide) rfl rfl ?_
  have s1 := h.1
  replace h := h.2
  refine wp_iinc dX0_pour_61 rfl (by decide) rfl rfl ?_ (h1 := s1.1) (h2 := s1.2)
  refine wp_goto (tgt := 41) dX0_pour_64 (by decide) ?_
  exact h
theorem dX10_follow_0 : decode cX10_follow 0 = .ok (.aload_n 1, 1) := by decide +kernel
theorem dX10_follow_1 : decode cX10_follow 1 = .ok (.getfield 53, 3) := by decide +kernel
theorem dX10_follow_4 : decode cX10_follow 4 = .ok (.astore 5, 2) := by decide +kernel
theorem dX10_follow_6 : decode cX10_follow 6 = .ok (.aload_n 0, 1) := by decide +kernel
theorem dX10_follow_7 : decode cX10_follow 7 = .ok (.iload_n 2, 1) := by decide +kernel
theorem dX10_follow_8 : decode cX10_follow 8 = .ok (.invokevirtual 86, 3) := by decide +kernel
theorem dX10_follow_11 : decode cX10_follow 11 = .ok (.iconst 0, 1) := by decide +kernel
theorem dX10_follow_12 : decode cX10_follow 12 = .ok (.istore 6, 2) := by decide +kernel
theorem dX10_follow_14 : decode cX10_follow 14 = .ok (.iload 6, 2) := by decide +kernel
theorem dX10_follow_16 : decode cX10_follow 16 = .ok (.iload 4, 2) := by decide +kernel
theorem dX10_follow_18 : decode cX10_follow 18 = .ok (.if_icmp .ge 94, 3) := by decide +kernel
theorem dX10_follow_21 : decode cX10_follow 21 = .ok (.aload_n 3, 1) := by decide +kernel
theorem dX10_follow_22 : decode cX10_follow 22 = .ok (.getfield 121, 3) := by decide +kernel
theorem dX10_follow_25 : decode cX10_follow 25 = .ok (.iconst 2, 1) := by decide +kernel
theorem dX10_follow_26 : decode cX10_follow 26 = .ok (.iload 6, 2) := by decide +kernel
theorem dX10_follow_28 : decode cX10_follow 28 = .ok (.imul, 1) := by decide +kernel
theorem dX10_follow_29 : decode cX10_follow 29 = .ok (.baload, 1) := by decide +kernel
theorem dX10_follow_30 : decode cX10_follow 30 = .ok (.sipush 255, 3) := by decide +kernel
theorem dX10_follow_33 : decode cX10_follow 33 = .ok (.iand, 1) := by decide +kernel
theorem dX10_follow_34 : decode cX10_follow 34 = .ok (.bipush 48, 2) := by decide +kernel
theorem dX10_follow_36 : decode cX10_follow 36 = .ok (.isub, 1) := by decide +kernel
theorem dX10_follow_37 : decode cX10_follow 37 = .ok (.istore 7, 2) := by decide +kernel
theorem dX10_follow_39 : decode cX10_follow 39 = .ok (.aload_n 3, 1) := by decide +kernel
theorem dX10_follow_40 : decode cX10_follow 40 = .ok (.getfield 121, 3) := by decide +kernel
theorem dX10_follow_43 : decode cX10_follow 43 = .ok (.iconst 2, 1) := by decide +kernel
theorem dX10_follow_44 : decode cX10_follow 44 = .ok (.iload 6, 2) := by decide +kernel
theorem dX10_follow_46 : decode cX10_follow 46 = .ok (.imul, 1) := by decide +kernel
theorem dX10_follow_47 : decode cX10_follow 47 = .ok (.iconst 1, 1) := by decide +kernel
theorem dX10_follow_48 : decode cX10_follow 48 = .ok (.iadd, 1) := by decide +kernel
theorem dX10_follow_49 : decode cX10_follow 49 = .ok (.baload, 1) := by decide +kernel
theorem dX10_follow_50 : decode cX10_follow 50 = .ok (.sipush 255, 3) := by decide +kernel
theorem dX10_follow_53 : decode cX10_follow 53 = .ok (.iand, 1) := by decide +kernel
theorem dX10_follow_54 : decode cX10_follow 54 = .ok (.bipush 48, 2) := by decide +kernel
theorem dX10_follow_56 : decode cX10_follow 56 = .ok (.isub, 1) := by decide +kernel
theorem dX10_follow_57 : decode cX10_follow 57 = .ok (.istore 8, 2) := by decide +kernel
theorem dX10_follow_59 : decode cX10_follow 59 = .ok (.aload 5, 2) := by decide +kernel
theorem dX10_follow_61 : decode cX10_follow 61 = .ok (.iload 7, 2) := by decide +kernel
theorem dX10_follow_63 : decode cX10_follow 63 = .ok (.invokevirtual 127, 3) := by decide +kernel
theorem dX10_follow_66 : decode cX10_follow 66 = .ok (.ifCond .eq 23, 3) := by decide +kernel
theorem dX10_follow_69 : decode cX10_follow 69 = .ok (.aload 5, 2) := by decide +kernel
theorem dX10_follow_71 : decode cX10_follow 71 = .ok (.iload 7, 2) := by decide +kernel
theorem dX10_follow_73 : decode cX10_follow 73 = .ok (.invokevirtual 131, 3) := by decide +kernel
theorem dX10_follow_76 : decode cX10_follow 76 = .ok (.ifCond .eq 13, 3) := by decide +kernel
theorem dX10_follow_79 : decode cX10_follow 79 = .ok (.aload 5, 2) := by decide +kernel
theorem dX10_follow_81 : decode cX10_follow 81 = .ok (.iload 8, 2) := by decide +kernel
theorem dX10_follow_83 : decode cX10_follow 83 = .ok (.invokevirtual 134, 3) := by decide +kernel
theorem dX10_follow_86 : decode cX10_follow 86 = .ok (.ifCond .ne 11, 3) := by decide +kernel
theorem dX10_follow_89 : decode cX10_follow 89 = .ok (.aload_n 0, 1) := by decide +kernel
theorem dX10_follow_90 : decode cX10_follow 90 = .ok (.iconst 0, 1) := by decide +kernel
theorem dX10_follow_91 : decode cX10_follow 91 = .ok (.putfield 32, 3) := by decide +kernel
theorem dX10_follow_94 : decode cX10_follow 94 = .ok (.iload 6, 2) := by decide +kernel
theorem dX10_follow_96 : decode cX10_follow 96 = .ok (.ireturn, 1) := by decide +kernel
theorem dX10_follow_97 : decode cX10_follow 97 = .ok (.aload_n 0, 1) := by decide +kernel
theorem dX10_follow_98 : decode cX10_follow 98 = .ok (.aload_n 1, 1) := by decide +kernel
theorem dX10_follow_99 : decode cX10_follow 99 = .ok (.iload 7, 2) := by decide +kernel
theorem dX10_follow_101 : decode cX10_follow 101 = .ok (.iload 8, 2) := by decide +kernel
theorem dX10_follow_103 : decode cX10_follow 103 = .ok (.invokevirtual 117, 3) := by decide +kernel
theorem dX10_follow_106 : decode cX10_follow 106 = .ok (.iinc 6 1, 3) := by decide +kernel
theorem dX10_follow_109 : decode cX10_follow 109 = .ok (.goto (-95), 3) := by decide +kernel
theorem dX10_follow_112 : decode cX10_follow 112 = .ok (.iload 4, 2) := by decide +kernel
theorem dX10_follow_114 : decode cX10_follow 114 = .ok (.ireturn, 1) := by decide +kernel
theorem b_X10_follow_0 {i : Nat} {j : Nat} {x2 : Int} {x4 : Int} {σ : St} {Q : Res → St → Prop} (h : WP mX10_begin 0 [vR 11 i, vI x2] [] σ (CT mX10_follow 11 [vR 11 i, vR 2 j, vU, vR 8 0, vI x4, vR 10 j, vU, vU, vU] [] Q)) : WP mX10_follow 0 [vR 11 i, vR 2 j, vI x2, vR 8 0, vI x4, vU, vU, vU, vU] [] σ Q := by
  refine wp_aload_n dX10_follow_0 rfl rfl ?_
  refine wp_getR dX10_follow_1 fl_CustomValley_Walk_53 rfl rfl ?_
  refine wp_astore dX10_follow_4 (by decide) rfl rfl ?_
  refine wp_aload_n dX10_follow_6 rfl rfl ?_
  refine wp_iload_n dX10_follow_7 rfl rfl ?_
  refine wp_invV (N := mX10_begin) [vI x2] dX10_follow_8 ml_CustomValley_Walk_86 mvX10_begin rfl rfl rfl rfl rfl (Nat.le_of_ble_eq_true rfl) (Nat.le_of_ble_eq_true rfl) (by decide) (by decide) (by decide) ?_
  exact WP.mono h (ct_drop (lle_c (Or.inl rfl) (lle_c (Or.inl rfl) (lle_c (Or.inr rfl) (lle_c (Or.inl rfl) (lle_c (Or.inl rfl) (lle_c (Or.inl rfl) (lle_c (Or.inl rfl) (lle_c (Or.inl rfl) (lle_c (Or.inl rfl) lle_n))))))))))
theorem b_X10_follow_11 {i : Nat} {j : Nat} {x4 : Int} {σ : St} {Q : Res → St → Prop} (h : WP mX10_follow 14 [vR 11 i, vR 2 j, vU, vR 8 0, vI x4, vR 10 j, vI 0, vU, vU] [] σ Q) : WP mX10_follow 11 [vR 11 i, vR 2 j, vU, vR 8 0, vI x4, vR 10 j, vU, vU, vU] [] σ Q := by
  refine wp_iconst dX10_follow_11 rfl ?_
  refine wp_istore dX10_follow_12 (by decide) rfl rfl ?_
  exact h
theorem b_X10_follow_14 {i : Nat} {j : Nat} {x4 : Int} {x6 : Int} {σ : St} {Q : Res → St → Prop} (h : ((x4 ≤ x6) → (Q (.inl (some (vI x4))) σ)) ∧ ((x6 < x4) → ((in32 (2 * x6)) ∧ ((0 ≤ 2 * x6 ∧ (2 * x6) < 700) ∧ ((in32 ((band (σ 46 0 ((2 * x6).toNat)) 255) - 48)) ∧ ((in32 (2 * x6)) ∧ ((in32 ((2 * x6) + 1)) ∧ ((0 ≤ (2 * x6) + 1 ∧ ((2 * x6) + 1) < 700) ∧ ((in32 ((band (σ 46 0 (((2 * x6) + 1).toNat)) 255) - 48)) ∧ (((¬ (0 ≤ ((band (σ 46 0 ((2 * x6).toNat)) 255) - 48) ∧ ((band (σ 46 0 ((2 * x6).toNat)) 255) - 48) < (σ 10 j 0))) → (Q (.inl (some (vI x6))) (up σ 11 i 5 0))) ∧ ((0 ≤ ((band (σ 46 0 ((2 * x6).toNat)) 255) - 48) ∧ ((band (σ 46 0 ((2 * x6).toNat)) 255) - 48) < (σ 10 j 0)) → (((¬ (band (shr (σ 10 j 9) ((band (σ 46 0 ((2 * x6).toNat)) 255) - 48)) 1 ≠ 0)) → (Q (.inl (some (vI x6))) (up σ 11 i 5 0))) ∧ ((band (shr (σ 10 j 9) ((band (σ 46 0 ((2 * x6).toNat)) 255) - 48)) 1 ≠ 0) → (((0 ≤ ((band (σ 46 0 (((2 * x6) + 1).toNat)) 255) - 48) ∧ ((band (σ 46 0 (((2 * x6) + 1).toNat)) 255) - 48) < (σ 10 j 1)) → (WP mX10_step 0 [vR 11 i, vR 2 j, vI ((band (σ 46 0 ((2 * x6).toNat)) 255) - 48), vI ((band (σ 46 0 (((2 * x6) + 1).toNat)) 255) - 48)] [] σ (CT mX10_follow 106 [vR 11 i, vR 2 j, vU, vR 8 0, vI x4, vR 10 j, vI x6, vU, vU] [] Q))) ∧ ((¬ (0 ≤ ((band (σ 46 0 (((2 * x6) + 1).toNat)) 255) - 48) ∧ ((band (σ 46 0 (((2 * x6) + 1).toNat)) 255) - 48) < (σ 10 j 1))) → (Q (.inl (some (vI x6))) (up σ 11 i 5 0))))))))))))))))) : WP mX10_follow 14 [vR 11 i, vR 2 j, vU, vR 8 0, vI x4, vR 10 j, vI x6, vU, vU] [] σ Q := by
  refine wp_iload dX10_follow_14 rfl ?_
  refine wp_iload dX10_follow_16 rfl ?_
  refine wp_icmp_ge (tgt := 112) dX10_follow_18 (by decide) (fun hc => ?_) (fun hc => ?_)
  · replace h := h.1 hc
    refine wp_iload dX10_follow_112 rfl ?_
    exact wp_iret dX10_follow_114 rfl h
  · replace h := h.2 hc
    refine wp_aload_n dX10_follow_21 rfl rfl ?_
    refine wp_getR dX10_follow_22 fl_CustomValley_Walk_121 rfl rfl ?_
    refine wp_iconst dX10_follow_25 rfl ?_
    refine wp_iload dX10_follow_26 rfl ?_
    have s7 := h.1
    replace h := h.2
    refine wp_imul dX10_follow_28 ?_ (h1 := s7.1) (h2 := s7.2)
    have s6 := h.1
    replace h := h.2
    refine wp_baload dX10_follow_29 rfl rfl s6.1 s6.2 ?_
    refine wp_sipush dX10_follow_30 rfl ?_
    refine wp_iand dX10_follow_33 ?_
    refine wp_bipush dX10_follow_34 rfl ?_
    have s5 := h.1
    replace h := h.2
    refine wp_isub dX10_follow_36 ?_ (h1 := s5.1) (h2 := s5.2)
    refine wp_istore dX10_follow_37 (by decide) rfl rfl ?_
    refine wp_aload_n dX10_follow_39 rfl rfl ?_
    refine wp_getR dX10_follow_40 fl_CustomValley_Walk_121 rfl rfl ?_
    refine wp_iconst dX10_follow_43 rfl ?_
    refine wp_iload dX10_follow_44 rfl ?_
    have s4 := h.1
    replace h := h.2
    refine wp_imul dX10_follow_46 ?_ (h1 := s4.1) (h2 := s4.2)
    refine wp_iconst dX10_follow_47 rfl ?_
    have s3 := h.1
    replace h := h.2
    refine wp_iadd dX10_follow_48 ?_ (h1 := s3.1) (h2 := s3.2)
    have s2 := h.1
    replace h := h.2
    refine wp_baload dX10_follow_49 rfl rfl s2.1 s2.2 ?_
    refine wp_sipush dX10_follow_50 rfl ?_
    refine wp_iand dX10_follow_53 ?_
    refine wp_bipush dX10_follow_54 rfl ?_
    have s1 := h.1
    replace h := h.2
    refine wp_isub dX10_follow_56 ?_ (h1 := s1.1) (h2 := s1.2)
    refine wp_istore dX10_follow_57 (by decide) rfl rfl ?_
    refine wp_aload dX10_follow_59 rfl ?_
    refine wp_iload dX10_follow_61 rfl ?_
    refine wp_invV (N := mX9_isPerson) [vI ((band (σ 46 0 ((2 * x6).toNat)) 255) - 48)] dX10_follow_63 ml_CustomValley_Walk_127 mvX9_isPerson rfl rfl rfl rfl rfl (Nat.le_of_ble_eq_true rfl) (Nat.le_of_ble_eq_true rfl) (by decide) (by decide) (by decide) ?_
    refine pb_X9_isPerson (by trivial) ?_
    show WP mX10_follow 66 [vR 11 i, vR 2 j, vU, vR 8 0, vI x4, vR 10 j, vI x6, vI ((band (σ 46 0 ((2 * x6).toNat)) 255) - 48), vI ((band (σ 46 0 (((2 * x6) + 1).toNat)) 255) - 48)] [vI (b2 (0 ≤ ((band (σ 46 0 ((2 * x6).toNat)) 255) - 48) ∧ ((band (σ 46 0 ((2 * x6).toNat)) 255) - 48) < (σ 10 j 0)))] σ Q
    refine wp_if_eq (tgt := 89) dX10_follow_66 (by decide) (fun hc => ?_) (fun hc => ?_)
    · replace h := h.1 (b2_eq hc)
      refine wp_aload_n dX10_follow_89 rfl rfl ?_
      refine wp_iconst dX10_follow_90 rfl ?_
      refine wp_putZ dX10_follow_91 fp_CustomValley_Walk_32 rfl rfl rfl (by decide) ?_
      refine wp_iload dX10_follow_94 rfl ?_
      exact wp_iret dX10_follow_96 rfl h
    · replace h := h.2 (b2_ne hc)
      refine wp_aload dX10_follow_69 rfl ?_
      refine wp_iload dX10_follow_71 rfl ?_
      refine wp_invV (N := mX9_isFree) [vI ((band (σ 46 0 ((2 * x6).toNat)) 255) - 48)] dX10_follow_73 ml_CustomValley_Walk_131 mvX9_isFree rfl rfl rfl rfl rfl (Nat.le_of_ble_eq_true rfl) (Nat.le_of_ble_eq_true rfl) (by decide) (by decide) (by decide) ?_
      refine pb_X9_isFree (by trivial) ?_
      show WP mX10_follow 76 [vR 11 i, vR 2 j, vU, vR 8 0, vI x4, vR 10 j, vI x6, vI ((band (σ 46 0 ((2 * x6).toNat)) 255) - 48), vI ((band (σ 46 0 (((2 * x6) + 1).toNat)) 255) - 48)] [vI (b2 (band (shr (σ 10 j 9) ((band (σ 46 0 ((2 * x6).toNat)) 255) - 48)) 1 ≠ 0))] σ Q
      refine wp_if_eq (tgt := 89) dX10_follow_76 (by decide) (fun hc => ?_) (fun hc => ?_)
      · replace h := h.1 (b2_eq hc)
        refine wp_aload_n dX10_follow_89 rfl rfl ?_
        refine wp_iconst dX10_follow_90 rfl ?_
        refine wp_putZ dX10_follow_91 fp_CustomValley_Walk_32 rfl rfl rfl (by decide) ?_
        refine wp_iload dX10_follow_94 rfl ?_
        exact wp_iret dX10_follow_96 rfl h
      · replace h := h.2 (b2_ne hc)
        refine wp_aload dX10_follow_79 rfl ?_
        refine wp_iload dX10_follow_81 rfl ?_
        refine wp_invV (N := mX9_isHabit) [vI ((band (σ 46 0 (((2 * x6) + 1).toNat)) 255) - 48)] dX10_follow_83 ml_CustomValley_Walk_134 mvX9_isHabit rfl rfl rfl rfl rfl (Nat.le_of_ble_eq_true rfl) (Nat.le_of_ble_eq_true rfl) (by decide) (by decide) (by decide) ?_
        refine pb_X9_isHabit (by trivial) ?_
        show WP mX10_follow 86 [vR 11 i, vR 2 j, vU, vR 8 0, vI x4, vR 10 j, vI x6, vI ((band (σ 46 0 ((2 * x6).toNat)) 255) - 48), vI ((band (σ 46 0 (((2 * x6) + 1).toNat)) 255) - 48)] [vI (b2 (0 ≤ ((band (σ 46 0 (((2 * x6) + 1).toNat)) 255) - 48) ∧ ((band (σ 46 0 (((2 * x6) + 1).toNat)) 255) - 48) < (σ 10 j 1)))] σ Q
        refine wp_if_ne (tgt := 97) dX10_follow_86 (by decide) (fun hc => ?_) (fun hc => ?_)
        · replace h := h.1 (b2_ne hc)
          refine wp_aload_n dX10_follow_97 rfl rfl ?_
          refine wp_aload_n dX10_follow_98 rfl rfl ?_
          refine wp_iload dX10_follow_99 rfl ?_
          refine wp_iload dX10_follow_101 rfl ?_
          refine wp_invV (N := mX10_step) [vR 2 j, vI ((band (σ 46 0 ((2 * x6).toNat)) 255) - 48), vI ((band (σ 46 0 (((2 * x6) + 1).toNat)) 255) - 48)] dX10_follow_103 ml_CustomValley_Walk_117 mvX10_step rfl rfl rfl rfl rfl (Nat.le_of_ble_eq_true rfl) (Nat.le_of_ble_eq_true rfl) (by decide) (by decide) (by decide) ?_
          exact WP.mono h (ct_drop (lle_c (Or.inl rfl) (lle_c (Or.inl rfl) (lle_c (Or.inl rfl) (lle_c (Or.inl rfl) (lle_c (Or.inl rfl) (lle_c (Or.inl rfl) (lle_c (Or.inl rfl) (lle_c (Or.inr rfl) (lle_c (Or.inr rfl) lle_n))))))))))
        · replace h := h.2 (b2_eq hc)
          refine wp_aload_n dX10_follow_89 rfl rfl ?_
          refine wp_iconst dX10_follow_90 rfl ?_
          refine wp_putZ dX10_follow_91 fp_CustomValley_Walk_32 rfl rfl rfl (by decide) ?_
          refine wp_iload dX10_follow_94 rfl ?_
          exact wp_iret dX10_follow_96 rfl h
theorem b_X10_follow_106 {i : Nat} {j : Nat} {x4 : Int} {x6 : Int} {σ : St} {Q : Res → St → Prop} (h : (in32 (x6 + 1)) ∧ (WP mX10_follow 14 [vR 11 i, vR 2 j, vU, vR 8 0, vI x4, vR 10 j, vI (x6 + 1), vU, vU] [] σ Q)) : WP mX10_follow 106 [vR 11 i, vR 2 j, vU, vR 8 0, vI x4, vR 10 j, vI x6, vU, vU] [] σ Q := by
  have s1 := h.1
  replace h := h.2
  refine wp_iinc dX10_follow_106 rfl (by decide) rfl rfl ?_ (h1 := s1.1) (h2 := s1.2)
  refine wp_goto (tgt := 14) dX10_follow_109 (by decide) ?_
  exact h
theorem dX10_wander_0 : decode cX10_wander 0 = .ok (.aload_n 1, 1) := by decide +kernel
theorem dX10_wander_1 : decode cX10_wander 1 = .ok (.getfield 53, 3) := by decide +kernel
theorem dX10_wander_4 : decode cX10_wander 4 = .ok (.astore 6, 2) := by decide +kernel
theorem dX10_wander_6 : decode cX10_wander 6 = .ok (.aload_n 0, 1) := by decide +kernel
theorem dX10_wander_7 : decode cX10_wander 7 = .ok (.iload_n 2, 1) := by decide +kernel
theorem dX10_wander_8 : decode cX10_wander 8 = .ok (.invokevirtual 86, 3) := by decide +kernel
theorem dX10_wander_11 : decode cX10_wander 11 = .ok (.aload_n 0, 1) := by decide +kernel
theorem dX10_wander_12 : decode cX10_wander 12 = .ok (.iload_n 3, 1) := by decide +kernel
theorem dX10_wander_13 : decode cX10_wander 13 = .ok (.i2l, 1) := by decide +kernel
theorem dX10_wander_14 : decode cX10_wander 14 = .ok (.putfield 76, 3) := by decide +kernel
theorem dX10_wander_17 : decode cX10_wander 17 = .ok (.iconst 0, 1) := by decide +kernel
theorem dX10_wander_18 : decode cX10_wander 18 = .ok (.istore 7, 2) := by decide +kernel
theorem dX10_wander_20 : decode cX10_wander 20 = .ok (.iload 7, 2) := by decide +kernel
theorem dX10_wander_22 : decode cX10_wander 22 = .ok (.iload 4, 2) := by decide +kernel
theorem dX10_wander_24 : decode cX10_wander 24 = .ok (.if_icmp .ge 119, 3) := by decide +kernel
theorem dX10_wander_27 : decode cX10_wander 27 = .ok (.aload 6, 2) := by decide +kernel
theorem dX10_wander_29 : decode cX10_wander 29 = .ok (.getfield 90, 3) := by decide +kernel
theorem dX10_wander_32 : decode cX10_wander 32 = .ok (.aload_n 0, 1) := by decide +kernel
theorem dX10_wander_33 : decode cX10_wander 33 = .ok (.invokevirtual 93, 3) := by decide +kernel
theorem dX10_wander_36 : decode cX10_wander 36 = .ok (.iconst 1, 1) := by decide +kernel
theorem dX10_wander_37 : decode cX10_wander 37 = .ok (.aload 6, 2) := by decide +kernel
theorem dX10_wander_39 : decode cX10_wander 39 = .ok (.getfield 97, 3) := by decide +kernel
theorem dX10_wander_42 : decode cX10_wander 42 = .ok (.invokestatic 100, 3) := by decide +kernel
theorem dX10_wander_45 : decode cX10_wander 45 = .ok (.irem, 1) := by decide +kernel
theorem dX10_wander_46 : decode cX10_wander 46 = .ok (.invokestatic 105, 3) := by decide +kernel
theorem dX10_wander_49 : decode cX10_wander 49 = .ok (.istore 8, 2) := by decide +kernel
theorem dX10_wander_51 : decode cX10_wander 51 = .ok (.aload_n 0, 1) := by decide +kernel
theorem dX10_wander_52 : decode cX10_wander 52 = .ok (.invokevirtual 93, 3) := by decide +kernel
theorem dX10_wander_55 : decode cX10_wander 55 = .ok (.iconst 1, 1) := by decide +kernel
theorem dX10_wander_56 : decode cX10_wander 56 = .ok (.iload 5, 2) := by decide +kernel
theorem dX10_wander_58 : decode cX10_wander 58 = .ok (.invokestatic 100, 3) := by decide +kernel
theorem dX10_wander_61 : decode cX10_wander 61 = .ok (.irem, 1) := by decide +kernel
theorem dX10_wander_62 : decode cX10_wander 62 = .ok (.ifCond .ne 7, 3) := by decide +kernel
theorem dX10_wander_65 : decode cX10_wander 65 = .ok (.iconst 1, 1) := by decide +kernel
theorem dX10_wander_66 : decode cX10_wander 66 = .ok (.goto 4, 3) := by decide +kernel
theorem dX10_wander_69 : decode cX10_wander 69 = .ok (.iconst 0, 1) := by decide +kernel
theorem dX10_wander_70 : decode cX10_wander 70 = .ok (.istore 9, 2) := by decide +kernel
theorem dX10_wander_72 : decode cX10_wander 72 = .ok (.aload_n 0, 1) := by decide +kernel
theorem dX10_wander_73 : decode cX10_wander 73 = .ok (.invokevirtual 93, 3) := by decide +kernel
theorem dX10_wander_76 : decode cX10_wander 76 = .ok (.istore 10, 2) := by decide +kernel
theorem dX10_wander_78 : decode cX10_wander 78 = .ok (.aload_n 1, 1) := by decide +kernel
theorem dX10_wander_79 : decode cX10_wander 79 = .ok (.getfield 41, 3) := by decide +kernel
theorem dX10_wander_82 : decode cX10_wander 82 = .ok (.aload_n 0, 1) := by decide +kernel
theorem dX10_wander_83 : decode cX10_wander 83 = .ok (.getfield 19, 3) := by decide +kernel
theorem dX10_wander_86 : decode cX10_wander 86 = .ok (.iload 8, 2) := by decide +kernel
theorem dX10_wander_88 : decode cX10_wander 88 = .ok (.invokevirtual 47, 3) := by decide +kernel
theorem dX10_wander_91 : decode cX10_wander 91 = .ok (.istore 11, 2) := by decide +kernel
theorem dX10_wander_93 : decode cX10_wander 93 = .ok (.iload 9, 2) := by decide +kernel
theorem dX10_wander_95 : decode cX10_wander 95 = .ok (.ifCond .eq 14, 3) := by decide +kernel
theorem dX10_wander_98 : decode cX10_wander 98 = .ok (.iload 10, 2) := by decide +kernel
theorem dX10_wander_100 : decode cX10_wander 100 = .ok (.aload 6, 2) := by decide +kernel
theorem dX10_wander_102 : decode cX10_wander 102 = .ok (.getfield 108, 3) := by decide +kernel
theorem dX10_wander_105 : decode cX10_wander 105 = .ok (.irem, 1) := by decide +kernel
theorem dX10_wander_106 : decode cX10_wander 106 = .ok (.goto 20, 3) := by decide +kernel
theorem dX10_wander_109 : decode cX10_wander 109 = .ok (.iload 11, 2) := by decide +kernel
theorem dX10_wander_111 : decode cX10_wander 111 = .ok (.iload 10, 2) := by decide +kernel
theorem dX10_wander_113 : decode cX10_wander 113 = .ok (.iconst 1, 1) := by decide +kernel
theorem dX10_wander_114 : decode cX10_wander 114 = .ok (.iload 11, 2) := by decide +kernel
theorem dX10_wander_116 : decode cX10_wander 116 = .ok (.invokestatic 111, 3) := by decide +kernel
theorem dX10_wander_119 : decode cX10_wander 119 = .ok (.invokestatic 100, 3) := by decide +kernel
theorem dX10_wander_122 : decode cX10_wander 122 = .ok (.irem, 1) := by decide +kernel
theorem dX10_wander_123 : decode cX10_wander 123 = .ok (.invokestatic 105, 3) := by decide +kernel
theorem dX10_wander_126 : decode cX10_wander 126 = .ok (.istore 12, 2) := by decide +kernel
theorem dX10_wander_128 : decode cX10_wander 128 = .ok (.aload_n 0, 1) := by decide +kernel
theorem dX10_wander_129 : decode cX10_wander 129 = .ok (.aload_n 1, 1) := by decide +kernel
theorem dX10_wander_130 : decode cX10_wander 130 = .ok (.iload 8, 2) := by decide +kernel
theorem dX10_wander_132 : decode cX10_wander 132 = .ok (.iload 12, 2) := by decide +kernel
theorem dX10_wander_134 : decode cX10_wander 134 = .ok (.invokevirtual 117, 3) := by decide +kernel
theorem dX10_wander_137 : decode cX10_wander 137 = .ok (.iinc 7 1, 3) := by decide +kernel
theorem dX10_wander_140 : decode cX10_wander 140 = .ok (.goto (-120), 3) := by decide +kernel
theorem dX10_wander_143 : decode cX10_wander 143 = .ok (.return_, 1) := by decide +kernel
theorem b_X10_wander_0 {i : Nat} {j : Nat} {x2 : Int} {x3 : Int} {x4 : Int} {x5 : Int} {σ : St} {Q : Res → St → Prop} (h : WP mX10_begin 0 [vR 11 i, vI x2] [] σ (CT mX10_wander 11 [vR 11 i, vR 2 j, vU, vI x3, vI x4, vI x5, vR 10 j, vU, vU, vU, vU, vU, vU] [] Q)) : WP mX10_wander 0 [vR 11 i, vR 2 j, vI x2, vI x3, vI x4, vI x5, vU, vU, vU, vU, vU, vU, vU] [] σ Q := by
  refine wp_aload_n dX10_wander_0 rfl rfl ?_
  refine wp_getR dX10_wander_1 fl_CustomValley_Walk_53 rfl rfl ?_
  refine wp_astore dX10_wander_4 (by decide) rfl rfl ?_
  refine wp_aload_n dX10_wander_6 rfl rfl ?_
  refine wp_iload_n dX10_wander_7 rfl rfl ?_
  refine wp_invV (N := mX10_begin) [vI x2] dX10_wander_8 ml_CustomValley_Walk_86 mvX10_begin rfl rfl rfl rfl rfl (Nat.le_of_ble_eq_true rfl) (Nat.le_of_ble_eq_true rfl) (by decide) (by decide) (by decide) ?_
  exact WP.mono h (ct_drop (lle_c (Or.inl rfl) (lle_c (Or.inl rfl) (lle_c (Or.inr rfl) (lle_c (Or.inl rfl) (lle_c (Or.inl rfl) (lle_c (Or.inl rfl) (lle_c (Or.inl rfl) (lle_c (Or.inl rfl) (lle_c (Or.inl rfl) (lle_c (Or.inl rfl) (lle_c (Or.inl rfl) (lle_c (Or.inl rfl) (lle_c (Or.inl rfl) lle_n))))))))))))))
theorem b_X10_wander_11 {i : Nat} {j : Nat} {x3 : Int} {x4 : Int} {x5 : Int} {σ : St} {Q : Res → St → Prop} (h : WP mX10_wander 20 [vR 11 i, vR 2 j, vU, vU, vI x4, vI x5, vR 10 j, vI 0, vU, vU, vU, vU, vU] [] (up σ 11 i 7 x3) Q) : WP mX10_wander 11 [vR 11 i, vR 2 j, vU, vI x3, vI x4, vI x5, vR 10 j, vU, vU, vU, vU, vU, vU] [] σ Q := by
  refine wp_aload_n dX10_wander_11 rfl rfl ?_
  refine wp_iload_n dX10_wander_12 rfl rfl ?_
  refine wp_i2l dX10_wander_13 ?_
  refine wp_putL dX10_wander_14 fp_CustomValley_Walk_76 rfl rfl rfl ?_
  refine wp_iconst dX10_wander_17 rfl ?_
  refine wp_istore dX10_wander_18 (by decide) rfl rfl ?_
  exact wp_drop (als' := [vR 11 i, vR 2 j, vU, vU, vI x4, vI x5, vR 10 j, vI 0, vU, vU, vU, vU, vU]) (lle_c (Or.inl rfl) (lle_c (Or.inl rfl) (lle_c (Or.inl rfl) (lle_c (Or.inr rfl) (lle_c (Or.inl rfl) (lle_c (Or.inl rfl) (lle_c (Or.inl rfl) (lle_c (Or.inl rfl) (lle_c (Or.inl rfl) (lle_c (Or.inl rfl) (lle_c (Or.inl rfl) (lle_c (Or.inl rfl) (lle_c (Or.inl rfl) lle_n))))))))))))) h
theorem b_X10_wander_20 {i : Nat} {j : Nat} {x4 : Int} {x5 : Int} {x7 : Int} {σ : St} {Q : Res → St → Prop} (h : ((x4 ≤ x7) → (Q (.inl none) σ)) ∧ ((x7 < x4) → (WP mX10_draw 0 [vR 11 i] [] σ (CT mX10_wander 36 [vR 11 i, vR 2 j, vU, vU, vI x4, vI x5, vR 10 j, vI x7, vU, vU, vU, vU, vU] [vI (σ 10 j 9)] Q)))) : WP mX10_wander 20 [vR 11 i, vR 2 j, vU, vU, vI x4, vI x5, vR 10 j, vI x7, vU, vU, vU, vU, vU] [] σ Q := by
  refine wp_iload dX10_wander_20 rfl ?_
  refine wp_iload dX10_wander_22 rfl ?_
  refine wp_icmp_ge (tgt := 143) dX10_wander_24 (by decide) (fun hc => ?_) (fun hc => ?_)
  · replace h := h.1 hc
    exact wp_ret dX10_wander_143 rfl h
  · replace h := h.2 hc
    refine wp_aload dX10_wander_27 rfl ?_
    refine wp_getI dX10_wander_29 fl_CustomValley_Walk_90 rfl rfl rfl ?_
    refine wp_aload_n dX10_wander_32 rfl rfl ?_
    refine wp_invV (N := mX10_draw) [] dX10_wander_33 ml_CustomValley_Walk_93 mvX10_draw rfl rfl rfl rfl rfl (Nat.le_of_ble_eq_true rfl) (Nat.le_of_ble_eq_true rfl) (by decide) (by decide) (by decide) ?_
    exact h
theorem b_X10_wander_36 {i : Nat} {j : Nat} {x4 : Int} {x5 : Int} {x7 : Int} {t0 : Int} {t1 : Int} {σ : St} {Q : Res → St → Prop} (h : (0 ≤ t0 ∧ 0 < max 1 (σ 10 j 10)) ∧ (WP mX10_bitAt 0 [vI t1, vI (t0 % (max 1 (σ 10 j 10))), vU, vU] [] σ (CT mX10_wander 49 [vR 11 i, vR 2 j, vU, vU, vI x4, vI x5, vR 10 j, vI x7, vU, vU, vU, vU, vU] [] Q))) : WP mX10_wander 36 [vR 11 i, vR 2 j, vU, vU, vI x4, vI x5, vR 10 j, vI x7, vU, vU, vU, vU, vU] [vI t0, vI t1] σ Q := by
  refine wp_iconst dX10_wander_36 rfl ?_
  refine wp_aload dX10_wander_37 rfl ?_
  refine wp_getI dX10_wander_39 fl_CustomValley_Walk_97 rfl rfl rfl ?_
  refine wp_mmax dX10_wander_42 mm_CustomValley_Walk_100 (by decide) (Nat.le_of_ble_eq_true rfl) ?_
  have s1 := h.1
  replace h := h.2
  refine wp_irem dX10_wander_45 ?_ (h1 := s1.1) (h2 := s1.2)
  refine wp_invS (N := mX10_bitAt) [vI t1, vI (t0 % (max 1 (σ 10 j 10)))] dX10_wander_46 ml_CustomValley_Walk_105 mvX10_bitAt rfl rfl rfl (Nat.le_of_ble_eq_true rfl) (Nat.le_of_ble_eq_true rfl) (by decide) (by decide) ?_
  exact h
theorem b_X10_wander_49 {i : Nat} {j : Nat} {x4 : Int} {x5 : Int} {x7 : Int} {t0 : Int} {σ : St} {Q : Res → St → Prop} (h : WP mX10_draw 0 [vR 11 i] [] σ (CT mX10_wander 55 [vR 11 i, vR 2 j, vU, vU, vI x4, vI x5, vR 10 j, vI x7, vI t0, vU, vU, vU, vU] [] Q)) : WP mX10_wander 49 [vR 11 i, vR 2 j, vU, vU, vI x4, vI x5, vR 10 j, vI x7, vU, vU, vU, vU, vU] [vI t0] σ Q := by
  refine wp_istore dX10_wander_49 (by decide) rfl rfl ?_
  refine wp_aload_n dX10_wander_51 rfl rfl ?_
  refine wp_invV (N := mX10_draw) [] dX10_wander_52 ml_CustomValley_Walk_93 mvX10_draw rfl rfl rfl rfl rfl (Nat.le_of_ble_eq_true rfl) (Nat.le_of_ble_eq_true rfl) (by decide) (by decide) (by decide) ?_
  exact h
theorem b_X10_wander_55 {i : Nat} {j : Nat} {x4 : Int} {x5 : Int} {x7 : Int} {x8 : Int} {t0 : Int} {σ : St} {Q : Res → St → Prop} (h : (0 ≤ t0 ∧ 0 < max 1 x5) ∧ ((((t0 % (max 1 x5)) ≠ 0) → (WP mX10_draw 0 [vR 11 i] [] σ (CT mX10_wander 76 [vR 11 i, vR 2 j, vU, vU, vI x4, vI x5, vR 10 j, vI x7, vI x8, vI 0, vU, vU, vU] [] Q))) ∧ (((t0 % (max 1 x5)) = 0) → (WP mX10_draw 0 [vR 11 i] [] σ (CT mX10_wander 76 [vR 11 i, vR 2 j, vU, vU, vI x4, vI x5, vR 10 j, vI x7, vI x8, vI 1, vU, vU, vU] [] Q))))) : WP mX10_wander 55 [vR 11 i, vR 2 j, vU, vU, vI x4, vI x5, vR 10 j, vI x7, vI x8, vU, vU, vU, vU] [vI t0] σ Q := by
  refine wp_iconst dX10_wander_55 rfl ?_
  refine wp_iload dX10_wander_56 rfl ?_
  refine wp_mmax dX10_wander_58 mm_CustomValley_Walk_100 (by decide) (Nat.le_of_ble_eq_true rfl) ?_
  have s1 := h.1
  replace h := h.2
  refine wp_irem dX10_wander_61 ?_ (h1 := s1.1) (h2 := s1.2)
  refine wp_if_ne (tgt := 69) dX10_wander_62 (by decide) (fun hc => ?_) (fun hc => ?_)
  · replace h := h.1 hc
    refine wp_iconst dX10_wander_69 rfl ?_
    refine wp_istore dX10_wander_70 (by decide) rfl rfl ?_
    refine wp_aload_n dX10_wander_72 rfl rfl ?_
    refine wp_invV (N := mX10_draw) [] dX10_wander_73 ml_CustomValley_Walk_93 mvX10_draw rfl rfl rfl rfl rfl (Nat.le_of_ble_eq_true rfl) (Nat.le_of_ble_eq_true rfl) (by decide) (by decide) (by decide) ?_
    exact h
  · replace h := h.2 hc
    refine wp_iconst dX10_wander_65 rfl ?_
    refine wp_goto (tgt := 70) dX10_wander_66 (by decide) ?_
    refine wp_istore dX10_wander_70 (by decide) rfl rfl ?_
    refine wp_aload_n dX10_wander_72 rfl rfl ?_
    refine wp_invV (N := mX10_draw) [] dX10_wander_73 ml_CustomValley_Walk_93 mvX10_draw rfl rfl rfl rfl rfl (Nat.le_of_ble_eq_true rfl) (Nat.le_of_ble_eq_true rfl) (by decide) (by decide) (by decide) ?_
    exact h
theorem b_X10_wander_76 {i : Nat} {j : Nat} {x4 : Int} {x5 : Int} {x7 : Int} {x8 : Int} {x9 : Int} {t0 : Int} {σ : St} {Q : Res → St → Prop} (h : (in32 ((σ 11 i 1) * 10) ∧ in32 (((σ 11 i 1) * 10) + x8) ∧ 0 ≤ ((σ 11 i 1) * 10) + x8 ∧ (((σ 11 i 1) * 10) + x8) < 10240) ∧ (((x9 = 0) → ((0 ≤ (band (σ 23 j ((((σ 11 i 1) * 10) + x8).toNat)) 15) ∧ ((band (σ 23 j ((((σ 11 i 1) * 10) + x8).toNat)) 15)) < 1024) ∧ ((0 ≤ t0 ∧ 0 < max 1 (bcnt ((band (σ 23 j ((((σ 11 i 1) * 10) + x8).toNat)) 15)))) ∧ (WP mX10_bitAt 0 [vI (band (σ 23 j ((((σ 11 i 1) * 10) + x8).toNat)) 15), vI (t0 % (max 1 (bcnt ((band (σ 23 j ((((σ 11 i 1) * 10) + x8).toNat)) 15))))), vU, vU] [] σ (CT mX10_wander 126 [vR 11 i, vR 2 j, vU, vU, vI x4, vI x5, vR 10 j, vI x7, vI x8, vU, vU, vU, vU] [] Q))))) ∧ ((x9 ≠ 0) → ((0 ≤ t0 ∧ 0 < σ 10 j 1) ∧ (WP mX10_wander 126 [vR 11 i, vR 2 j, vU, vU, vI x4, vI x5, vR 10 j, vI x7, vI x8, vU, vU, vU, vU] [vI (t0 % (σ 10 j 1))] σ Q))))) : WP mX10_wander 76 [vR 11 i, vR 2 j, vU, vU, vI x4, vI x5, vR 10 j, vI x7, vI x8, vI x9, vU, vU, vU] [vI t0] σ Q := by
  refine wp_istore dX10_wander_76 (by decide) rfl rfl ?_
  refine wp_aload_n dX10_wander_78 rfl rfl ?_
  refine wp_getR dX10_wander_79 fl_CustomValley_Walk_41 rfl rfl ?_
  refine wp_aload_n dX10_wander_82 rfl rfl ?_
  refine wp_getI dX10_wander_83 fl_CustomValley_Walk_19 rfl rfl rfl ?_
  refine wp_iload dX10_wander_86 rfl ?_
  have s4 := h.1
  replace h := h.2
  refine wp_invV (N := mX3_bits) [vI (σ 11 i 1), vI x8] dX10_wander_88 ml_CustomValley_Walk_47 mvX3_bits rfl rfl rfl rfl rfl (Nat.le_of_ble_eq_true rfl) (Nat.le_of_ble_eq_true rfl) (by decide) (by decide) (by decide) ?_
  refine pb_X3_bits s4 ?_
  show WP mX10_wander 91 [vR 11 i, vR 2 j, vU, vU, vI x4, vI x5, vR 10 j, vI x7, vI x8, vI x9, vI t0, vU, vU] [vI (band (σ 23 j ((((σ 11 i 1) * 10) + x8).toNat)) 15)] σ Q
  refine wp_istore dX10_wander_91 (by decide) rfl rfl ?_
  refine wp_iload dX10_wander_93 rfl ?_
  refine wp_if_eq (tgt := 109) dX10_wander_95 (by decide) (fun hc => ?_) (fun hc => ?_)
  · replace h := h.1 hc
    refine wp_iload dX10_wander_109 rfl ?_
    refine wp_iload dX10_wander_111 rfl ?_
    refine wp_iconst dX10_wander_113 rfl ?_
    refine wp_iload dX10_wander_114 rfl ?_
    have s2 := h.1
    replace h := h.2
    refine wp_invS (N := mJ6_bitCount_0f7a4) [vI (band (σ 23 j ((((σ 11 i 1) * 10) + x8).toNat)) 15)] dX10_wander_116 ml_CustomValley_Walk_111 mvJ6_bitCount_0f7a4 rfl rfl rfl (Nat.le_of_ble_eq_true rfl) (Nat.le_of_ble_eq_true rfl) (by decide) (by decide) ?_
    refine pb_J6_bitCount_0f7a4 s2 ?_
    show WP mX10_wander 119 [vR 11 i, vR 2 j, vU, vU, vI x4, vI x5, vR 10 j, vI x7, vI x8, vI x9, vI t0, vI (band (σ 23 j ((((σ 11 i 1) * 10) + x8).toNat)) 15), vU] [vI (bcnt ((band (σ 23 j ((((σ 11 i 1) * 10) + x8).toNat)) 15))), vI 1, vI t0, vI (band (σ 23 j ((((σ 11 i 1) * 10) + x8).toNat)) 15)] σ Q
    refine wp_mmax dX10_wander_119 mm_CustomValley_Walk_100 (by decide) (Nat.le_of_ble_eq_true rfl) ?_
    have s1 := h.1
    replace h := h.2
    refine wp_irem dX10_wander_122 ?_ (h1 := s1.1) (h2 := s1.2)
    refine wp_invS (N := mX10_bitAt) [vI (band (σ 23 j ((((σ 11 i 1) * 10) + x8).toNat)) 15), vI (t0 % (max 1 (bcnt ((band (σ 23 j ((((σ 11 i 1) * 10) + x8).toNat)) 15)))))] dX10_wander_123 ml_CustomValley_Walk_105 mvX10_bitAt rfl rfl rfl (Nat.le_of_ble_eq_true rfl) (Nat.le_of_ble_eq_true rfl) (by decide) (by decide) ?_
    exact WP.mono h (ct_drop (lle_c (Or.inl rfl) (lle_c (Or.inl rfl) (lle_c (Or.inl rfl) (lle_c (Or.inl rfl) (lle_c (Or.inl rfl) (lle_c (Or.inl rfl) (lle_c (Or.inl rfl) (lle_c (Or.inl rfl) (lle_c (Or.inl rfl) (lle_c (Or.inr rfl) (lle_c (Or.inr rfl) (lle_c (Or.inr rfl) (lle_c (Or.inl rfl) lle_n))))))))))))))
  · replace h := h.2 hc
    refine wp_iload dX10_wander_98 rfl ?_
    refine wp_aload dX10_wander_100 rfl ?_
    refine wp_getI dX10_wander_102 fl_CustomValley_Walk_108 rfl rfl rfl ?_
    have s3 := h.1
    replace h := h.2
    refine wp_irem dX10_wander_105 ?_ (h1 := s3.1) (h2 := s3.2)
    refine wp_goto (tgt := 126) dX10_wander_106 (by decide) ?_
    exact wp_drop (als' := [vR 11 i, vR 2 j, vU, vU, vI x4, vI x5, vR 10 j, vI x7, vI x8, vU, vU, vU, vU]) (lle_c (Or.inl rfl) (lle_c (Or.inl rfl) (lle_c (Or.inl rfl) (lle_c (Or.inl rfl) (lle_c (Or.inl rfl) (lle_c (Or.inl rfl) (lle_c (Or.inl rfl) (lle_c (Or.inl rfl) (lle_c (Or.inl rfl) (lle_c (Or.inr rfl) (lle_c (Or.inr rfl) (lle_c (Or.inr rfl) (lle_c (Or.inl rfl) lle_n))))))))))))) h
theorem b_X10_wander_126 {i : Nat} {j : Nat} {x4 : Int} {x5 : Int} {x7 : Int} {x8 : Int} {t0 : Int} {σ : St} {Q : Res → St → Prop} (h : WP mX10_step 0 [vR 11 i, vR 2 j, vI x8, vI t0] [] σ (CT mX10_wander 137 [vR 11 i, vR 2 j, vU, vU, vI x4, vI x5, vR 10 j, vI x7, vU, vU, vU, vU, vU] [] Q)) : WP mX10_wander 126 [vR 11 i, vR 2 j, vU, vU, vI x4, vI x5, vR 10 j, vI x7, vI x8, vU, vU, vU, vU] [vI t0] σ Q := by
  refine wp_istore dX10_wander_126 (by decide) rfl rfl ?_
  refine wp_aload_n dX10_wander_128 rfl rfl ?_
  refine wp_aload_n dX10_wander_129 rfl rfl ?_
  refine wp_iload dX10_wander_130 rfl ?_
  refine wp_iload dX10_wander_132 rfl ?_
  refine wp_invV (N := mX10_step) [vR 2 j, vI x8, vI t0] dX10_wander_134 ml_CustomValley_Walk_117 mvX10_step rfl rfl rfl rfl rfl (Nat.le_of_ble_eq_true rfl) (Nat.le_of_ble_eq_true rfl) (by decide) (by decide) (by decide) ?_
  exact WP.mono h (ct_drop (lle_c (Or.inl rfl) (lle_c (Or.inl rfl) (lle_c (Or.inl rfl) (lle_c (Or.inl rfl) (lle_c (Or.inl rfl) (lle_c (Or.inl rfl) (lle_c (Or.inl rfl) (lle_c (Or.inl rfl) (lle_c (Or.inr rfl) (lle_c (Or.inl rfl) (lle_c (Or.inl rfl) (lle_c (Or.inl rfl) (lle_c (Or.inr rfl) lle_n))))))))))))))
theorem b_X10_wander_137 {i : Nat} {j : Nat} {x4 : Int} {x5 : Int} {x7 : Int} {σ : St} {Q : Res → St → Prop} (h : (in32 (x7 + 1)) ∧ (WP mX10_wander 20 [vR 11 i, vR 2 j, vU, vU, vI x4, vI x5, vR 10 j, vI (x7 + 1), vU, vU, vU, vU, vU] [] σ Q)) : WP mX10_wander 137 [vR 11 i, vR 2 j, vU, vU, vI x4, vI x5, vR 10 j, vI x7, vU, vU, vU, vU, vU] [] σ Q := by
  have s1 := h.1
  replace h := h.2
  refine wp_iinc dX10_wander_137 rfl (by decide) rfl rfl ?_ (h1 := s1.1) (h2 := s1.2)
  refine wp_goto (tgt := 20) dX10_wander_140 (by decide) ?_
  exact h
theorem dX8_leastSum_0 : decode cX8_leastSum 0 = .ok (.aload_n 0, 1) := by decide +kernel
theorem dX8_leastSum_1 : decode cX8_leastSum 1 = .ok (.getfield 15, 3) := by decide +kernel
theorem dX8_leastSum_4 : decode cX8_leastSum 4 = .ok (.iconst (-1), 1) := by decide +kernel
theorem dX8_leastSum_5 : decode cX8_leastSum 5 = .ok (.invokestatic 37, 3) := by decide +kernel
theorem dX8_leastSum_8 : decode cX8_leastSum 8 = .ok (.aload_n 0, 1) := by decide +kernel
theorem dX8_leastSum_9 : decode cX8_leastSum 9 = .ok (.aload_n 1, 1) := by decide +kernel
theorem dX8_leastSum_10 : decode cX8_leastSum 10 = .ok (.iload_n 2, 1) := by decide +kernel
theorem dX8_leastSum_11 : decode cX8_leastSum 11 = .ok (.invokevirtual 43, 3) := by decide +kernel
theorem dX8_leastSum_14 : decode cX8_leastSum 14 = .ok (.ireturn, 1) := by decide +kernel
theorem b_X8_leastSum_0 {j : Nat} {x2 : Int} {σ : St} {Q : Res → St → Prop} (h : WP mJ7_fill_53178 0 [vR 48 0, vI (-1), vU, vU] [] σ (CT mX8_leastSum 8 [vR 9 0, vR 2 j, vI x2] [] Q)) : WP mX8_leastSum 0 [vR 9 0, vR 2 j, vI x2] [] σ Q := by
  refine wp_aload_n dX8_leastSum_0 rfl rfl ?_
  refine wp_getR dX8_leastSum_1 fl_CustomValley_Trees_15 rfl rfl ?_
  refine wp_iconst dX8_leastSum_4 rfl ?_
  refine wp_invS (N := mJ7_fill_53178) [vR 48 0, vI (-1)] dX8_leastSum_5 ml_CustomValley_Trees_37 mvJ7_fill_53178 rfl rfl rfl (Nat.le_of_ble_eq_true rfl) (Nat.le_of_ble_eq_true rfl) (by decide) (by decide) ?_
  exact h
theorem b_X8_leastSum_8 {j : Nat} {x2 : Int} {σ : St} {Q : Res → St → Prop} (h : WP mX8_sumAsFixed 0 [vR 9 0, vR 2 j, vI x2, vU, vU, vU, vU, vU, vU] [] σ (CT mX8_leastSum 14 [vU, vU, vU] [] Q)) : WP mX8_leastSum 8 [vR 9 0, vR 2 j, vI x2] [] σ Q := by
  refine wp_aload_n dX8_leastSum_8 rfl rfl ?_
  refine wp_aload_n dX8_leastSum_9 rfl rfl ?_
  refine wp_iload_n dX8_leastSum_10 rfl rfl ?_
  refine wp_invV (N := mX8_sumAsFixed) [vR 2 j, vI x2] dX8_leastSum_11 ml_CustomValley_Trees_43 mvX8_sumAsFixed rfl rfl rfl rfl rfl (Nat.le_of_ble_eq_true rfl) (Nat.le_of_ble_eq_true rfl) (by decide) (by decide) (by decide) ?_
  exact WP.mono h (ct_drop (lle_c (Or.inr rfl) (lle_c (Or.inr rfl) (lle_c (Or.inr rfl) lle_n))))
theorem b_X8_leastSum_14 {t0 : Int} {σ : St} {Q : Res → St → Prop} (h : Q (.inl (some (vI t0))) σ) : WP mX8_leastSum 14 [vU, vU, vU] [vI t0] σ Q := by
  exact wp_iret dX8_leastSum_14 rfl h
theorem dX8_grow_0 : decode cX8_grow 0 = .ok (.aload_n 0, 1) := by decide +kernel
theorem dX8_grow_1 : decode cX8_grow 1 = .ok (.aload_n 1, 1) := by decide +kernel
theorem dX8_grow_2 : decode cX8_grow 2 = .ok (.iload_n 2, 1) := by decide +kernel
theorem dX8_grow_3 : decode cX8_grow 3 = .ok (.invokevirtual 47, 3) := by decide +kernel
theorem dX8_grow_6 : decode cX8_grow 6 = .ok (.istore_n 3, 1) := by decide +kernel
theorem dX8_grow_7 : decode cX8_grow 7 = .ok (.aload_n 1, 1) := by decide +kernel
theorem dX8_grow_8 : decode cX8_grow 8 = .ok (.getfield 50, 3) := by decide +kernel
theorem dX8_grow_11 : decode cX8_grow 11 = .ok (.getfield 56, 3) := by decide +kernel
theorem dX8_grow_14 : decode cX8_grow 14 = .ok (.istore 4, 2) := by decide +kernel
theorem dX8_grow_16 : decode cX8_grow 16 = .ok (.iconst 0, 1) := by decide +kernel
theorem dX8_grow_17 : decode cX8_grow 17 = .ok (.istore 5, 2) := by decide +kernel
theorem dX8_grow_19 : decode cX8_grow 19 = .ok (.iload 5, 2) := by decide +kernel
theorem dX8_grow_21 : decode cX8_grow 21 = .ok (.iload 4, 2) := by decide +kernel
theorem dX8_grow_23 : decode cX8_grow 23 = .ok (.if_icmp .ge 63, 3) := by decide +kernel
theorem dX8_grow_26 : decode cX8_grow 26 = .ok (.iconst 0, 1) := by decide +kernel
theorem dX8_grow_27 : decode cX8_grow 27 = .ok (.istore 6, 2) := by decide +kernel
theorem dX8_grow_29 : decode cX8_grow 29 = .ok (.iload 6, 2) := by decide +kernel
theorem dX8_grow_31 : decode cX8_grow 31 = .ok (.iload 4, 2) := by decide +kernel
theorem dX8_grow_33 : decode cX8_grow 33 = .ok (.if_icmp .ge 47, 3) := by decide +kernel
theorem dX8_grow_36 : decode cX8_grow 36 = .ok (.iload 5, 2) := by decide +kernel
theorem dX8_grow_38 : decode cX8_grow 38 = .ok (.iload_n 2, 1) := by decide +kernel
theorem dX8_grow_39 : decode cX8_grow 39 = .ok (.if_icmp .eq 41, 3) := by decide +kernel
theorem dX8_grow_42 : decode cX8_grow 42 = .ok (.iload 6, 2) := by decide +kernel
theorem dX8_grow_44 : decode cX8_grow 44 = .ok (.iload 5, 2) := by decide +kernel
theorem dX8_grow_46 : decode cX8_grow 46 = .ok (.if_icmp .ne 6, 3) := by decide +kernel
theorem dX8_grow_49 : decode cX8_grow 49 = .ok (.goto 25, 3) := by decide +kernel
theorem dX8_grow_52 : decode cX8_grow 52 = .ok (.aload_n 0, 1) := by decide +kernel
theorem dX8_grow_53 : decode cX8_grow 53 = .ok (.getfield 15, 3) := by decide +kernel
theorem dX8_grow_56 : decode cX8_grow 56 = .ok (.iload 5, 2) := by decide +kernel
theorem dX8_grow_58 : decode cX8_grow 58 = .ok (.iload 6, 2) := by decide +kernel
theorem dX8_grow_60 : decode cX8_grow 60 = .ok (.iastore, 1) := by decide +kernel
theorem dX8_grow_61 : decode cX8_grow 61 = .ok (.aload_n 0, 1) := by decide +kernel
theorem dX8_grow_62 : decode cX8_grow 62 = .ok (.aload_n 1, 1) := by decide +kernel
theorem dX8_grow_63 : decode cX8_grow 63 = .ok (.iload_n 2, 1) := by decide +kernel
theorem dX8_grow_64 : decode cX8_grow 64 = .ok (.invokevirtual 43, 3) := by decide +kernel
theorem dX8_grow_67 : decode cX8_grow 67 = .ok (.iload_n 3, 1) := by decide +kernel
theorem dX8_grow_68 : decode cX8_grow 68 = .ok (.if_icmp .ne 6, 3) := by decide +kernel
theorem dX8_grow_71 : decode cX8_grow 71 = .ok (.goto 9, 3) := by decide +kernel
theorem dX8_grow_74 : decode cX8_grow 74 = .ok (.iinc 6 1, 3) := by decide +kernel
theorem dX8_grow_77 : decode cX8_grow 77 = .ok (.goto (-48), 3) := by decide +kernel
theorem dX8_grow_80 : decode cX8_grow 80 = .ok (.iinc 5 1, 3) := by decide +kernel
theorem dX8_grow_83 : decode cX8_grow 83 = .ok (.goto (-64), 3) := by decide +kernel
theorem dX8_grow_86 : decode cX8_grow 86 = .ok (.aload_n 0, 1) := by decide +kernel
theorem dX8_grow_87 : decode cX8_grow 87 = .ok (.iload 4, 2) := by decide +kernel
theorem dX8_grow_89 : decode cX8_grow 89 = .ok (.putfield 33, 3) := by decide +kernel
theorem dX8_grow_92 : decode cX8_grow 92 = .ok (.aload_n 0, 1) := by decide +kernel
theorem dX8_grow_93 : decode cX8_grow 93 = .ok (.getfield 15, 3) := by decide +kernel
theorem dX8_grow_96 : decode cX8_grow 96 = .ok (.iconst 0, 1) := by decide +kernel
theorem dX8_grow_97 : decode cX8_grow 97 = .ok (.aload_n 0, 1) := by decide +kernel
theorem dX8_grow_98 : decode cX8_grow 98 = .ok (.getfield 9, 3) := by decide +kernel
theorem dX8_grow_101 : decode cX8_grow 101 = .ok (.iconst 0, 1) := by decide +kernel
theorem dX8_grow_102 : decode cX8_grow 102 = .ok (.bipush 12, 2) := by decide +kernel
theorem dX8_grow_104 : decode cX8_grow 104 = .ok (.invokestatic 61, 3) := by decide +kernel
theorem dX8_grow_107 : decode cX8_grow 107 = .ok (.iload_n 3, 1) := by decide +kernel
theorem dX8_grow_108 : decode cX8_grow 108 = .ok (.ireturn, 1) := by decide +kernel
theorem b_X8_grow_0 {j : Nat} {x2 : Int} {σ : St} {Q : Res → St → Prop} (h : WP mX8_leastSum 0 [vR 9 0, vR 2 j, vI x2] [] σ (CT mX8_grow 6 [vR 9 0, vR 2 j, vI x2, vU, vU, vU, vU] [] Q)) : WP mX8_grow 0 [vR 9 0, vR 2 j, vI x2, vU, vU, vU, vU] [] σ Q := by
  refine wp_aload_n dX8_grow_0 rfl rfl ?_
  refine wp_aload_n dX8_grow_1 rfl rfl ?_
  refine wp_iload_n dX8_grow_2 rfl rfl ?_
  refine wp_invV (N := mX8_leastSum) [vR 2 j, vI x2] dX8_grow_3 ml_CustomValley_Trees_47 mvX8_leastSum rfl rfl rfl rfl rfl (Nat.le_of_ble_eq_true rfl) (Nat.le_of_ble_eq_true rfl) (by decide) (by decide) (by decide) ?_
  exact h
theorem b_X8_grow_6 {j : Nat} {x2 : Int} {t0 : Int} {σ : St} {Q : Res → St → Prop} (h : WP mX8_grow 19 [vR 9 0, vR 2 j, vI x2, vI t0, vI (σ 5 j 0), vI 0, vU] [] σ Q) : WP mX8_grow 6 [vR 9 0, vR 2 j, vI x2, vU, vU, vU, vU] [vI t0] σ Q := by
  refine wp_istore_n dX8_grow_6 rfl (by decide) rfl rfl ?_
  refine wp_aload_n dX8_grow_7 rfl rfl ?_
  refine wp_getR dX8_grow_8 fl_CustomValley_Trees_50 rfl rfl ?_
  refine wp_getI dX8_grow_11 fl_CustomValley_Trees_56 rfl rfl rfl ?_
  refine wp_istore dX8_grow_14 (by decide) rfl rfl ?_
  refine wp_iconst dX8_grow_16 rfl ?_
  refine wp_istore dX8_grow_17 (by decide) rfl rfl ?_
  exact h
theorem b_X8_grow_19 {j : Nat} {x2 : Int} {x3 : Int} {x4 : Int} {x5 : Int} {σ : St} {Q : Res → St → Prop} (h : ((x4 ≤ x5) → (Q (.inl (some (vI x3))) (upR (up σ 9 0 0 x4) 47 0 0 12 (fun k9 => (up σ 9 0 0 x4) 48 0 (0 + k9))))) ∧ ((x5 < x4) → (WP mX8_grow 29 [vR 9 0, vR 2 j, vI x2, vI x3, vI x4, vI x5, vI 0] [] σ Q))) : WP mX8_grow 19 [vR 9 0, vR 2 j, vI x2, vI x3, vI x4, vI x5, vU] [] σ Q := by
  refine wp_iload dX8_grow_19 rfl ?_
  refine wp_iload dX8_grow_21 rfl ?_
  refine wp_icmp_ge (tgt := 86) dX8_grow_23 (by decide) (fun hc => ?_) (fun hc => ?_)
  · replace h := h.1 hc
    refine wp_aload_n dX8_grow_86 rfl rfl ?_
    refine wp_iload dX8_grow_87 rfl ?_
    refine wp_putI dX8_grow_89 fp_CustomValley_Trees_33 rfl rfl rfl ?_
    refine wp_aload_n dX8_grow_92 rfl rfl ?_
    refine wp_getR dX8_grow_93 fl_CustomValley_Trees_15 rfl rfl ?_
    refine wp_iconst dX8_grow_96 rfl ?_
    refine wp_aload_n dX8_grow_97 rfl rfl ?_
    refine wp_getR dX8_grow_98 fl_CustomValley_Trees_9 rfl rfl ?_
    refine wp_iconst dX8_grow_101 rfl ?_
    refine wp_bipush dX8_grow_102 rfl ?_
    refine wp_copy dX8_grow_104 cp_CustomValley_Trees_61 cp_nat cp_stat cp_ini rfl rfl rfl rfl (by decide) (by decide) (Nat.le_of_ble_eq_true rfl) (by decide) (by decide) (by decide) (by decide) (by decide) (by decide) ?_
    refine wp_iload_n dX8_grow_107 rfl rfl ?_
    exact wp_iret dX8_grow_108 rfl h
  · replace h := h.2 hc
    refine wp_iconst dX8_grow_26 rfl ?_
    refine wp_istore dX8_grow_27 (by decide) rfl rfl ?_
    exact h
theorem b_X8_grow_29 {j : Nat} {x2 : Int} {x3 : Int} {x4 : Int} {x5 : Int} {x6 : Int} {σ : St} {Q : Res → St → Prop} (h : ((x4 ≤ x6) → ((in32 (x5 + 1)) ∧ (WP mX8_grow 19 [vR 9 0, vR 2 j, vI x2, vI x3, vI x4, vI (x5 + 1), vU] [] σ Q))) ∧ ((x6 < x4) → (((x5 = x2) → ((in32 (x5 + 1)) ∧ (WP mX8_grow 19 [vR 9 0, vR 2 j, vI x2, vI x3, vI x4, vI (x5 + 1), vU] [] σ Q))) ∧ ((x5 ≠ x2) → (((x6 ≠ x5) → ((0 ≤ x5 ∧ x5 < 12) ∧ (WP mX8_sumAsFixed 0 [vR 9 0, vR 2 j, vI x2, vU, vU, vU, vU, vU, vU] [] (up σ 48 0 x5.toNat x6) (CT mX8_grow 67 [vR 9 0, vR 2 j, vI x2, vI x3, vI x4, vI x5, vI x6] [] Q)))) ∧ ((x6 = x5) → ((in32 (x6 + 1)) ∧ (WP mX8_grow 29 [vR 9 0, vR 2 j, vI x2, vI x3, vI x4, vI x5, vI (x6 + 1)] [] σ Q)))))))) : WP mX8_grow 29 [vR 9 0, vR 2 j, vI x2, vI x3, vI x4, vI x5, vI x6] [] σ Q := by
  refine wp_iload dX8_grow_29 rfl ?_
  refine wp_iload dX8_grow_31 rfl ?_
  refine wp_icmp_ge (tgt := 80) dX8_grow_33 (by decide) (fun hc => ?_) (fun hc => ?_)
  · replace h := h.1 hc
    have s1 := h.1
    replace h := h.2
    refine wp_iinc dX8_grow_80 rfl (by decide) rfl rfl ?_ (h1 := s1.1) (h2 := s1.2)
    refine wp_goto (tgt := 19) dX8_grow_83 (by decide) ?_
    exact wp_drop (als' := [vR 9 0, vR 2 j, vI x2, vI x3, vI x4, vI (x5 + 1), vU]) (lle_c (Or.inl rfl) (lle_c (Or.inl rfl) (lle_c (Or.inl rfl) (lle_c (Or.inl rfl) (lle_c (Or.inl rfl) (lle_c (Or.inl rfl) (lle_c (Or.inr rfl) lle_n))))))) h
  · replace h := h.2 hc
    refine wp_iload dX8_grow_36 rfl ?_
    refine wp_iload_n dX8_grow_38 rfl rfl ?_
    refine wp_icmp_eq (tgt := 80) dX8_grow_39 (by decide) (fun hc => ?_) (fun hc => ?_)
    · replace h := h.1 hc
      have s2 := h.1
      replace h := h.2
      refine wp_iinc dX8_grow_80 rfl (by decide) rfl rfl ?_ (h1 := s2.1) (h2 := s2.2)
      refine wp_goto (tgt := 19) dX8_grow_83 (by decide) ?_
      exact wp_drop (als' := [vR 9 0, vR 2 j, vI x2, vI x3, vI x4, vI (x5 + 1), vU]) (lle_c (Or.inl rfl) (lle_c (Or.inl rfl) (lle_c (Or.inl rfl) (lle_c (Or.inl rfl) (lle_c (Or.inl rfl) (lle_c (Or.inl rfl) (lle_c (Or.inr rfl) lle_n))))))) h
    · replace h := h.2 hc
      refine wp_iload dX8_grow_42 rfl ?_
      refine wp_iload dX8_grow_44 rfl ?_
      refine wp_icmp_ne (tgt := 52) dX8_grow_46 (by decide) (fun hc => ?_) (fun hc => ?_)
      · replace h := h.1 hc
        refine wp_aload_n dX8_grow_52 rfl rfl ?_
        refine wp_getR dX8_grow_53 fl_CustomValley_Trees_15 rfl rfl ?_
        refine wp_iload dX8_grow_56 rfl ?_
        refine wp_iload dX8_grow_58 rfl ?_
        have s3 := h.1
        replace h := h.2
        refine wp_iastore dX8_grow_60 rfl rfl s3.1 s3.2 ?_
        refine wp_aload_n dX8_grow_61 rfl rfl ?_
        refine wp_aload_n dX8_grow_62 rfl rfl ?_
        refine wp_iload_n dX8_grow_63 rfl rfl ?_
        refine wp_invV (N := mX8_sumAsFixed) [vR 2 j, vI x2] dX8_grow_64 ml_CustomValley_Trees_43 mvX8_sumAsFixed rfl rfl rfl rfl rfl (Nat.le_of_ble_eq_true rfl) (Nat.le_of_ble_eq_true rfl) (by decide) (by decide) (by decide) ?_
        exact h
      · replace h := h.2 hc
        refine wp_goto (tgt := 74) dX8_grow_49 (by decide) ?_
        have s4 := h.1
        replace h := h.2
        refine wp_iinc dX8_grow_74 rfl (by decide) rfl rfl ?_ (h1 := s4.1) (h2 := s4.2)
        refine wp_goto (tgt := 29) dX8_grow_77 (by decide) ?_
        exact h
theorem b_X8_grow_67 {j : Nat} {x2 : Int} {x3 : Int} {x4 : Int} {x5 : Int} {x6 : Int} {t0 : Int} {σ : St} {Q : Res → St → Prop} (h : ((t0 ≠ x3) → ((in32 (x6 + 1)) ∧ (WP mX8_grow 29 [vR 9 0, vR 2 j, vI x2, vI x3, vI x4, vI x5, vI (x6 + 1)] [] σ Q))) ∧ ((t0 = x3) → ((in32 (x5 + 1)) ∧ (WP mX8_grow 19 [vR 9 0, vR 2 j, vI x2, vI x3, vI x4, vI (x5 + 1), vU] [] σ Q)))) : WP mX8_grow 67 [vR 9 0, vR 2 j, vI x2, vI x3, vI x4, vI x5, vI x6] [vI t0] σ Q := by
  refine wp_iload_n dX8_grow_67 rfl rfl ?_
  refine wp_icmp_ne (tgt := 74) dX8_grow_68 (by decide) (fun hc => ?_) (fun hc => ?_)
  · replace h := h.1 hc
    have s1 := h.1
    replace h := h.2
    refine wp_iinc dX8_grow_74 rfl (by decide) rfl rfl ?_ (h1 := s1.1) (h2 := s1.2)
    refine wp_goto (tgt := 29) dX8_grow_77 (by decide) ?_
    exact h
  · replace h := h.2 hc
    refine wp_goto (tgt := 80) dX8_grow_71 (by decide) ?_
    have s2 := h.1
    replace h := h.2
    refine wp_iinc dX8_grow_80 rfl (by decide) rfl rfl ?_ (h1 := s2.1) (h2 := s2.2)
    refine wp_goto (tgt := 19) dX8_grow_83 (by decide) ?_
    exact wp_drop (als' := [vR 9 0, vR 2 j, vI x2, vI x3, vI x4, vI (x5 + 1), vU]) (lle_c (Or.inl rfl) (lle_c (Or.inl rfl) (lle_c (Or.inl rfl) (lle_c (Or.inl rfl) (lle_c (Or.inl rfl) (lle_c (Or.inl rfl) (lle_c (Or.inr rfl) lle_n))))))) h
