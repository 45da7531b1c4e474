theorem dX11_areOdds_0 : decode cX11_areOdds 0 = .ok (.iload_n 0, 1) := by decide +kernel
theorem dX11_areOdds_1 : decode cX11_areOdds 1 = .ok (.iconst 2, 1) := by decide +kernel
theorem dX11_areOdds_2 : decode cX11_areOdds 2 = .ok (.if_icmp .lt 14, 3) := by decide +kernel
theorem dX11_areOdds_5 : decode cX11_areOdds 5 = .ok (.iload_n 0, 1) := by decide +kernel
theorem dX11_areOdds_6 : decode cX11_areOdds 6 = .ok (.sipush 1000, 3) := by decide +kernel
theorem dX11_areOdds_9 : decode cX11_areOdds 9 = .ok (.if_icmp .gt 7, 3) := by decide +kernel
theorem dX11_areOdds_12 : decode cX11_areOdds 12 = .ok (.iconst 1, 1) := by decide +kernel
theorem dX11_areOdds_13 : decode cX11_areOdds 13 = .ok (.goto 4, 3) := by decide +kernel
theorem dX11_areOdds_16 : decode cX11_areOdds 16 = .ok (.iconst 0, 1) := by decide +kernel
theorem dX11_areOdds_17 : decode cX11_areOdds 17 = .ok (.ireturn, 1) := by decide +kernel
theorem b_X11_areOdds_0 {x0 : Int} {σ : St} {Q : Res → St → Prop} (h : ((x0 < 2) → (Q (.inl (some (vI 0))) σ)) ∧ ((2 ≤ x0) → (((1000 < x0) → (Q (.inl (some (vI 0))) σ)) ∧ ((x0 ≤ 1000) → (Q (.inl (some (vI 1))) σ))))) : WP mX11_areOdds 0 [vI x0] [] σ Q := by
  refine wp_iload_n dX11_areOdds_0 rfl rfl ?_
  refine wp_iconst dX11_areOdds_1 rfl ?_
  refine wp_icmp_lt (tgt := 16) dX11_areOdds_2 (by decide) (fun hc => ?_) (fun hc => ?_)
  · replace h := h.1 hc
    refine wp_iconst dX11_areOdds_16 rfl ?_
    exact wp_zret dX11_areOdds_17 rfl h (by decide)
  · replace h := h.2 hc
    refine wp_iload_n dX11_areOdds_5 rfl rfl ?_
    refine wp_sipush dX11_areOdds_6 rfl ?_
    refine wp_icmp_gt (tgt := 16) dX11_areOdds_9 (by decide) (fun hc => ?_) (fun hc => ?_)
    · replace h := h.1 hc
      refine wp_iconst dX11_areOdds_16 rfl ?_
      exact wp_zret dX11_areOdds_17 rfl h (by decide)
    · replace h := h.2 hc
      refine wp_iconst dX11_areOdds_12 rfl ?_
      refine wp_goto (tgt := 17) dX11_areOdds_13 (by decide) ?_
      exact wp_zret dX11_areOdds_17 rfl h (by decide)
theorem pb_X11_areOdds {x0 : Int} {σ : St} {Q : Res → St → Prop} (hs : True) (h : Q (.inl (some (vI (b2 (2 ≤ x0 ∧ x0 ≤ 1000))))) σ) : WP mX11_areOdds 0 [vI x0] [] σ Q := by
  refine b_X11_areOdds_0 ?_
  by_cases hp : (2 ≤ x0 ∧ x0 ≤ 1000)
  · rw [b2, if_pos hp] at h
    (repeat' (first | intro _ | apply And.intro)) <;> (first | exact h | omega | (exfalso; omega) | (exact absurd (by assumption) (by omega)))
  · rw [b2, if_neg hp] at h
    (repeat' (first | intro _ | apply And.intro)) <;> (first | exact h | omega | (exfalso; omega) | (exact absurd (by assumption) (by omega)))
theorem dX11_treeTo_0 : decode cX11_treeTo 0 = .ok (.aload_n 0, 1) := by decide +kernel
theorem dX11_treeTo_1 : decode cX11_treeTo 1 = .ok (.getfield 48, 3) := by decide +kernel
theorem dX11_treeTo_4 : decode cX11_treeTo 4 = .ok (.iload_n 1, 1) := by decide +kernel
theorem dX11_treeTo_5 : decode cX11_treeTo 5 = .ok (.invokevirtual 248, 3) := by decide +kernel
theorem dX11_treeTo_8 : decode cX11_treeTo 8 = .ok (.ireturn, 1) := by decide +kernel
theorem b_X11_treeTo_0 {x1 : Int} {σ : St} {Q : Res → St → Prop} (h : ((σ 9 0 0) ≤ 12) ∧ (Q (.inl (some (vI (if 0 ≤ x1 ∧ x1 < (σ 9 0 0) then (σ 47 0 x1.toNat) else -1)))) σ)) : WP mX11_treeTo 0 [vR 12 0, vI x1] [] σ Q := by
  refine wp_aload_n dX11_treeTo_0 rfl rfl ?_
  refine wp_getR dX11_treeTo_1 fl_CustomValley_48 rfl rfl ?_
  refine wp_iload_n dX11_treeTo_4 rfl rfl ?_
  have s1 := h.1
  replace h := h.2
  refine wp_invV (N := mX8_goesOn) [vI x1] dX11_treeTo_5 ml_CustomValley_248 mvX8_goesOn rfl rfl rfl rfl rfl (Nat.le_of_ble_eq_true rfl) (Nat.le_of_ble_eq_true rfl) (by decide) (by decide) (by decide) ?_
  refine pb_X8_goesOn s1 ?_
  show WP mX11_treeTo 8 [vR 12 0, vI x1] [vI (if 0 ≤ x1 ∧ x1 < (σ 9 0 0) then (σ 47 0 x1.toNat) else -1)] σ Q
  exact wp_iret dX11_treeTo_8 rfl h
theorem pb_X11_treeTo {x1 : Int} {σ : St} {Q : Res → St → Prop} (hs : (σ 9 0 0) ≤ 12) (h : Q (.inl (some (vI (if 0 ≤ x1 ∧ x1 < (σ 9 0 0) then (σ 47 0 x1.toNat) else -1)))) σ) : WP mX11_treeTo 0 [vR 12 0, vI x1] [] σ Q := by
  have h0 := hs
  exact b_X11_treeTo_0 ⟨h0, h⟩
theorem dX11_count_0 : decode cX11_count 0 = .ok (.iload_n 1, 1) := by decide +kernel
theorem dX11_count_1 : decode cX11_count 1 = .ok (.tableswitch 66 0 3 #[31, 42, 50, 58], 31) := by decide +kernel
theorem dX11_count_32 : decode cX11_count 32 = .ok (.aload_n 0, 1) := by decide +kernel
theorem dX11_count_33 : decode cX11_count 33 = .ok (.getfield 28, 3) := by decide +kernel
theorem dX11_count_36 : decode cX11_count 36 = .ok (.getfield 103, 3) := by decide +kernel
theorem dX11_count_39 : decode cX11_count 39 = .ok (.getfield 122, 3) := by decide +kernel
theorem dX11_count_42 : decode cX11_count 42 = .ok (.ireturn, 1) := by decide +kernel
theorem dX11_count_43 : decode cX11_count 43 = .ok (.aload_n 0, 1) := by decide +kernel
theorem dX11_count_44 : decode cX11_count 44 = .ok (.getfield 72, 3) := by decide +kernel
theorem dX11_count_47 : decode cX11_count 47 = .ok (.getfield 344, 3) := by decide +kernel
theorem dX11_count_50 : decode cX11_count 50 = .ok (.ireturn, 1) := by decide +kernel
theorem dX11_count_51 : decode cX11_count 51 = .ok (.aload_n 0, 1) := by decide +kernel
theorem dX11_count_52 : decode cX11_count 52 = .ok (.getfield 72, 3) := by decide +kernel
theorem dX11_count_55 : decode cX11_count 55 = .ok (.getfield 348, 3) := by decide +kernel
theorem dX11_count_58 : decode cX11_count 58 = .ok (.ireturn, 1) := by decide +kernel
theorem dX11_count_59 : decode cX11_count 59 = .ok (.aload_n 0, 1) := by decide +kernel
theorem dX11_count_60 : decode cX11_count 60 = .ok (.getfield 10, 3) := by decide +kernel
theorem dX11_count_63 : decode cX11_count 63 = .ok (.getfield 89, 3) := by decide +kernel
theorem dX11_count_66 : decode cX11_count 66 = .ok (.ireturn, 1) := by decide +kernel
theorem dX11_count_67 : decode cX11_count 67 = .ok (.iconst (-1), 1) := by decide +kernel
theorem dX11_count_68 : decode cX11_count 68 = .ok (.ireturn, 1) := by decide +kernel
theorem b_X11_count_0 {x1 : Int} {σ : St} {Q : Res → St → Prop} (h : (x1 = 0 → (Q (.inl (some (vI (σ 10 0 4)))) σ)) ∧ (x1 = 1 → (Q (.inl (some (vI (σ 7 0 0)))) σ)) ∧ (x1 = 2 → (Q (.inl (some (vI (σ 7 0 1)))) σ)) ∧ (x1 = 3 → (Q (.inl (some (vI (σ 8 0 1)))) σ)) ∧ ((x1 < 0 ∨ 3 < x1) → (Q (.inl (some (vI (-1)))) σ))) : WP mX11_count 0 [vR 12 0, vI x1] [] σ Q := by
  refine wp_iload_n dX11_count_0 rfl rfl ?_
  by_cases q0 : x1 = 0
  · refine wp_tsIn (tgt := 32) dX11_count_1 (by omega) (by omega) (by rw [q0]; rfl) (by decide) ?_
    replace h := h.1 q0
    refine wp_aload_n dX11_count_32 rfl rfl ?_
    refine wp_getR dX11_count_33 fl_CustomValley_28 rfl rfl ?_
    refine wp_getR dX11_count_36 fl_CustomValley_103 rfl rfl ?_
    refine wp_getI dX11_count_39 fl_CustomValley_122 rfl rfl rfl ?_
    exact wp_iret dX11_count_42 rfl h
  · replace h := h.2
    by_cases q1 : x1 = 1
    · refine wp_tsIn (tgt := 43) dX11_count_1 (by omega) (by omega) (by rw [q1]; rfl) (by decide) ?_
      replace h := h.1 q1
      refine wp_aload_n dX11_count_43 rfl rfl ?_
      refine wp_getR dX11_count_44 fl_CustomValley_72 rfl rfl ?_
      refine wp_getI dX11_count_47 fl_CustomValley_344 rfl rfl rfl ?_
      exact wp_iret dX11_count_50 rfl h
    · replace h := h.2
      by_cases q2 : x1 = 2
      · refine wp_tsIn (tgt := 51) dX11_count_1 (by omega) (by omega) (by rw [q2]; rfl) (by decide) ?_
        replace h := h.1 q2
        refine wp_aload_n dX11_count_51 rfl rfl ?_
        refine wp_getR dX11_count_52 fl_CustomValley_72 rfl rfl ?_
        refine wp_getI dX11_count_55 fl_CustomValley_348 rfl rfl rfl ?_
        exact wp_iret dX11_count_58 rfl h
      · replace h := h.2
        by_cases q3 : x1 = 3
        · refine wp_tsIn (tgt := 59) dX11_count_1 (by omega) (by omega) (by rw [q3]; rfl) (by decide) ?_
          replace h := h.1 q3
          refine wp_aload_n dX11_count_59 rfl rfl ?_
          refine wp_getR dX11_count_60 fl_CustomValley_10 rfl rfl ?_
          refine wp_getI dX11_count_63 fl_CustomValley_89 rfl rfl rfl ?_
          exact wp_iret dX11_count_66 rfl h
        · replace h := h.2
          refine wp_tsOut (tgt := 67) dX11_count_1 (by omega) (by decide) ?_
          replace h := h (by omega)
          refine wp_iconst dX11_count_67 rfl ?_
          exact wp_iret dX11_count_68 rfl h
theorem dX11_end_0 : decode cX11_end 0 = .ok (.iload_n 1, 1) := by decide +kernel
theorem dX11_end_1 : decode cX11_end 1 = .ok (.ifCond .lt 14, 3) := by decide +kernel
theorem dX11_end_4 : decode cX11_end 4 = .ok (.iload_n 1, 1) := by decide +kernel
theorem dX11_end_5 : decode cX11_end 5 = .ok (.aload_n 0, 1) := by decide +kernel
theorem dX11_end_6 : decode cX11_end 6 = .ok (.getfield 10, 3) := by decide +kernel
theorem dX11_end_9 : decode cX11_end 9 = .ok (.getfield 89, 3) := by decide +kernel
theorem dX11_end_12 : decode cX11_end 12 = .ok (.if_icmp .le 5, 3) := by decide +kernel
theorem dX11_end_15 : decode cX11_end 15 = .ok (.iconst (-1), 1) := by decide +kernel
theorem dX11_end_16 : decode cX11_end 16 = .ok (.ireturn, 1) := by decide +kernel
theorem dX11_end_17 : decode cX11_end 17 = .ok (.aload_n 0, 1) := by decide +kernel
theorem dX11_end_18 : decode cX11_end 18 = .ok (.getfield 10, 3) := by decide +kernel
theorem dX11_end_21 : decode cX11_end 21 = .ok (.iload_n 1, 1) := by decide +kernel
theorem dX11_end_22 : decode cX11_end 22 = .ok (.putfield 89, 3) := by decide +kernel
theorem dX11_end_25 : decode cX11_end 25 = .ok (.iload_n 1, 1) := by decide +kernel
theorem dX11_end_26 : decode cX11_end 26 = .ok (.ireturn, 1) := by decide +kernel
theorem b_X11_end_0 {x1 : Int} {σ : St} {Q : Res → St → Prop} (h : ((x1 < 0) → (Q (.inl (some (vI (-1)))) σ)) ∧ ((0 ≤ x1) → (((x1 ≤ (σ 8 0 1)) → (Q (.inl (some (vI x1))) (up σ 8 0 1 x1))) ∧ (((σ 8 0 1) < x1) → (Q (.inl (some (vI (-1)))) σ))))) : WP mX11_end 0 [vR 12 0, vI x1] [] σ Q := by
  refine wp_iload_n dX11_end_0 rfl rfl ?_
  refine wp_if_lt (tgt := 15) dX11_end_1 (by decide) (fun hc => ?_) (fun hc => ?_)
  · replace h := h.1 hc
    refine wp_iconst dX11_end_15 rfl ?_
    exact wp_iret dX11_end_16 rfl h
  · replace h := h.2 hc
    refine wp_iload_n dX11_end_4 rfl rfl ?_
    refine wp_aload_n dX11_end_5 rfl rfl ?_
    refine wp_getR dX11_end_6 fl_CustomValley_10 rfl rfl ?_
    refine wp_getI dX11_end_9 fl_CustomValley_89 rfl rfl rfl ?_
    refine wp_icmp_le (tgt := 17) dX11_end_12 (by decide) (fun hc => ?_) (fun hc => ?_)
    · replace h := h.1 hc
      refine wp_aload_n dX11_end_17 rfl rfl ?_
      refine wp_getR dX11_end_18 fl_CustomValley_10 rfl rfl ?_
      refine wp_iload_n dX11_end_21 rfl rfl ?_
      refine wp_putI dX11_end_22 fp_CustomValley_89 rfl rfl rfl ?_
      refine wp_iload_n dX11_end_25 rfl rfl ?_
      exact wp_iret dX11_end_26 rfl h
    · replace h := h.2 hc
      refine wp_iconst dX11_end_15 rfl ?_
      exact wp_iret dX11_end_16 rfl h
theorem dX11_fault_0 : decode cX11_fault 0 = .ok (.iload_n 1, 1) := by decide +kernel
theorem dX11_fault_1 : decode cX11_fault 1 = .ok (.ifCond .ne 11, 3) := by decide +kernel
theorem dX11_fault_4 : decode cX11_fault 4 = .ok (.aload_n 0, 1) := by decide +kernel
theorem dX11_fault_5 : decode cX11_fault 5 = .ok (.getfield 21, 3) := by decide +kernel
theorem dX11_fault_8 : decode cX11_fault 8 = .ok (.getfield 100, 3) := by decide +kernel
theorem dX11_fault_11 : decode cX11_fault 11 = .ok (.ireturn, 1) := by decide +kernel
theorem dX11_fault_12 : decode cX11_fault 12 = .ok (.iload_n 1, 1) := by decide +kernel
theorem dX11_fault_13 : decode cX11_fault 13 = .ok (.iconst 1, 1) := by decide +kernel
theorem dX11_fault_14 : decode cX11_fault 14 = .ok (.if_icmp .ne 13, 3) := by decide +kernel
theorem dX11_fault_17 : decode cX11_fault 17 = .ok (.aload_n 0, 1) := by decide +kernel
theorem dX11_fault_18 : decode cX11_fault 18 = .ok (.getfield 21, 3) := by decide +kernel
theorem dX11_fault_21 : decode cX11_fault 21 = .ok (.getfield 125, 3) := by decide +kernel
theorem dX11_fault_24 : decode cX11_fault 24 = .ok (.goto 4, 3) := by decide +kernel
theorem dX11_fault_27 : decode cX11_fault 27 = .ok (.iconst (-1), 1) := by decide +kernel
theorem dX11_fault_28 : decode cX11_fault 28 = .ok (.ireturn, 1) := by decide +kernel
theorem b_X11_fault_0 {x1 : Int} {σ : St} {Q : Res → St → Prop} (h : ((x1 ≠ 0) → (((x1 ≠ 1) → (Q (.inl (some (vI (-1)))) σ)) ∧ ((x1 = 1) → (Q (.inl (some (vI (σ 3 0 3)))) σ)))) ∧ ((x1 = 0) → (Q (.inl (some (vI (σ 3 0 2)))) σ))) : WP mX11_fault 0 [vR 12 0, vI x1] [] σ Q := by
  refine wp_iload_n dX11_fault_0 rfl rfl ?_
  refine wp_if_ne (tgt := 12) dX11_fault_1 (by decide) (fun hc => ?_) (fun hc => ?_)
  · replace h := h.1 hc
    refine wp_iload_n dX11_fault_12 rfl rfl ?_
    refine wp_iconst dX11_fault_13 rfl ?_
    refine wp_icmp_ne (tgt := 27) dX11_fault_14 (by decide) (fun hc => ?_) (fun hc => ?_)
    · replace h := h.1 hc
      refine wp_iconst dX11_fault_27 rfl ?_
      exact wp_iret dX11_fault_28 rfl h
    · replace h := h.2 hc
      refine wp_aload_n dX11_fault_17 rfl rfl ?_
      refine wp_getR dX11_fault_18 fl_CustomValley_21 rfl rfl ?_
      refine wp_getI dX11_fault_21 fl_CustomValley_125 rfl rfl rfl ?_
      refine wp_goto (tgt := 28) dX11_fault_24 (by decide) ?_
      exact wp_iret dX11_fault_28 rfl h
  · replace h := h.2 hc
    refine wp_aload_n dX11_fault_4 rfl rfl ?_
    refine wp_getR dX11_fault_5 fl_CustomValley_21 rfl rfl ?_
    refine wp_getI dX11_fault_8 fl_CustomValley_100 rfl rfl rfl ?_
    exact wp_iret dX11_fault_11 rfl h
theorem dX11_fillTo_0 : decode cX11_fillTo 0 = .ok (.iconst 0, 1) := by decide +kernel
theorem dX11_fillTo_1 : decode cX11_fillTo 1 = .ok (.istore_n 3, 1) := by decide +kernel
theorem dX11_fillTo_2 : decode cX11_fillTo 2 = .ok (.iload_n 3, 1) := by decide +kernel
theorem dX11_fillTo_3 : decode cX11_fillTo 3 = .ok (.iload_n 1, 1) := by decide +kernel
theorem dX11_fillTo_4 : decode cX11_fillTo 4 = .ok (.if_icmp .ge 19, 3) := by decide +kernel
theorem dX11_fillTo_7 : decode cX11_fillTo 7 = .ok (.iload_n 3, 1) := by decide +kernel
theorem dX11_fillTo_8 : decode cX11_fillTo 8 = .ok (.aload_n 0, 1) := by decide +kernel
theorem dX11_fillTo_9 : decode cX11_fillTo 9 = .ok (.arraylength, 1) := by decide +kernel
theorem dX11_fillTo_10 : decode cX11_fillTo 10 = .ok (.if_icmp .ge 13, 3) := by decide +kernel
theorem dX11_fillTo_13 : decode cX11_fillTo 13 = .ok (.aload_n 0, 1) := by decide +kernel
theorem dX11_fillTo_14 : decode cX11_fillTo 14 = .ok (.iload_n 3, 1) := by decide +kernel
theorem dX11_fillTo_15 : decode cX11_fillTo 15 = .ok (.iload_n 2, 1) := by decide +kernel
theorem dX11_fillTo_16 : decode cX11_fillTo 16 = .ok (.iastore, 1) := by decide +kernel
theorem dX11_fillTo_17 : decode cX11_fillTo 17 = .ok (.iinc 3 1, 3) := by decide +kernel
theorem dX11_fillTo_20 : decode cX11_fillTo 20 = .ok (.goto (-18), 3) := by decide +kernel
theorem dX11_fillTo_23 : decode cX11_fillTo 23 = .ok (.return_, 1) := by decide +kernel
theorem b_X11_fillTo_0 {c0 : Nat} {j : Nat} {x1 : Int} {x2 : Int} {σ : St} {Q : Res → St → Prop} (h00 : c0 ≠ 0) (hoc : oc c0 = none) (hak : ak c0 = 0) (hlt : c0 < 1000) (hal : (Int32.ofNat (al c0)).toInt = (al c0 : Int)) (h : WP mX11_fillTo 2 [vR c0 j, vI x1, vI x2, vI 0] [] σ Q) : WP mX11_fillTo 0 [vR c0 j, vI x1, vI x2, vU] [] σ Q := by
  refine wp_iconst dX11_fillTo_0 rfl ?_
  refine wp_istore_n dX11_fillTo_1 rfl (by decide) rfl rfl ?_
  exact h
theorem b_X11_fillTo_2 {c0 : Nat} {j : Nat} {x1 : Int} {x2 : Int} {x3 : Int} {σ : St} {Q : Res → St → Prop} (h00 : c0 ≠ 0) (hoc : oc c0 = none) (hak : ak c0 = 0) (hlt : c0 < 1000) (hal : (Int32.ofNat (al c0)).toInt = (al c0 : Int)) (h : ((x1 ≤ x3) → (Q (.inl none) σ)) ∧ ((x3 < x1) → (((((al c0 : Int)) ≤ x3) → (Q (.inl none) σ)) ∧ ((x3 < ((al c0 : Int))) → ((0 ≤ x3 ∧ x3 < (al c0 : Int)) ∧ ((in32 (x3 + 1)) ∧ (WP mX11_fillTo 2 [vR c0 j, vI x1, vI x2, vI (x3 + 1)] [] (up σ c0 j x3.toNat x2) Q))))))) : WP mX11_fillTo 2 [vR c0 j, vI x1, vI x2, vI x3] [] σ Q := by
  refine wp_iload_n dX11_fillTo_2 rfl rfl ?_
  refine wp_iload_n dX11_fillTo_3 rfl rfl ?_
  refine wp_icmp_ge (tgt := 23) dX11_fillTo_4 (by decide) (fun hc => ?_) (fun hc => ?_)
  · replace h := h.1 hc
    exact wp_ret dX11_fillTo_23 rfl h
  · replace h := h.2 hc
    refine wp_iload_n dX11_fillTo_7 rfl rfl ?_
    refine wp_aload_n dX11_fillTo_8 rfl rfl ?_ (h0 := h00)
    refine wp_alen dX11_fillTo_9 hoc (by rw [hak]; decide) hal ?_ (h1 := hlt)
    refine wp_icmp_ge (tgt := 23) dX11_fillTo_10 (by decide) (fun hc => ?_) (fun hc => ?_)
    · replace h := h.1 hc
      exact wp_ret dX11_fillTo_23 rfl h
    · replace h := h.2 hc
      refine wp_aload_n dX11_fillTo_13 rfl rfl ?_ (h0 := h00)
      refine wp_iload_n dX11_fillTo_14 rfl rfl ?_
      refine wp_iload_n dX11_fillTo_15 rfl rfl ?_
      have s2 := h.1
      replace h := h.2
      refine wp_iastore dX11_fillTo_16 hoc hak s2.1 s2.2 ?_ (h1 := hlt)
      have s1 := h.1
      replace h := h.2
      refine wp_iinc dX11_fillTo_17 rfl (by decide) rfl rfl ?_ (h1 := s1.1) (h2 := s1.2)
      refine wp_goto (tgt := 2) dX11_fillTo_20 (by decide) ?_
      exact h
theorem dX11_judged_0 : decode cX11_judged 0 = .ok (.aload_n 0, 1) := by decide +kernel
theorem dX11_judged_1 : decode cX11_judged 1 = .ok (.getfield 66, 3) := by decide +kernel
theorem dX11_judged_4 : decode cX11_judged 4 = .ok (.getfield 319, 3) := by decide +kernel
theorem dX11_judged_7 : decode cX11_judged 7 = .ok (.ifCond .ne 5, 3) := by decide +kernel
theorem dX11_judged_10 : decode cX11_judged 10 = .ok (.iconst (-1), 1) := by decide +kernel
theorem dX11_judged_11 : decode cX11_judged 11 = .ok (.ireturn, 1) := by decide +kernel
theorem dX11_judged_12 : decode cX11_judged 12 = .ok (.iload_n 1, 1) := by decide +kernel
theorem dX11_judged_13 : decode cX11_judged 13 = .ok (.tableswitch 71 0 3 #[31, 39, 47, 55], 31) := by decide +kernel
theorem dX11_judged_44 : decode cX11_judged 44 = .ok (.aload_n 0, 1) := by decide +kernel
theorem dX11_judged_45 : decode cX11_judged 45 = .ok (.getfield 66, 3) := by decide +kernel
theorem dX11_judged_48 : decode cX11_judged 48 = .ok (.getfield 320, 3) := by decide +kernel
theorem dX11_judged_51 : decode cX11_judged 51 = .ok (.ireturn, 1) := by decide +kernel
theorem dX11_judged_52 : decode cX11_judged 52 = .ok (.aload_n 0, 1) := by decide +kernel
theorem dX11_judged_53 : decode cX11_judged 53 = .ok (.getfield 66, 3) := by decide +kernel
theorem dX11_judged_56 : decode cX11_judged 56 = .ok (.getfield 323, 3) := by decide +kernel
theorem dX11_judged_59 : decode cX11_judged 59 = .ok (.ireturn, 1) := by decide +kernel
theorem dX11_judged_60 : decode cX11_judged 60 = .ok (.aload_n 0, 1) := by decide +kernel
theorem dX11_judged_61 : decode cX11_judged 61 = .ok (.getfield 66, 3) := by decide +kernel
theorem dX11_judged_64 : decode cX11_judged 64 = .ok (.getfield 316, 3) := by decide +kernel
theorem dX11_judged_67 : decode cX11_judged 67 = .ok (.ireturn, 1) := by decide +kernel
theorem dX11_judged_68 : decode cX11_judged 68 = .ok (.aload_n 0, 1) := by decide +kernel
theorem dX11_judged_69 : decode cX11_judged 69 = .ok (.getfield 66, 3) := by decide +kernel
theorem dX11_judged_72 : decode cX11_judged 72 = .ok (.getfield 335, 3) := by decide +kernel
theorem dX11_judged_75 : decode cX11_judged 75 = .ok (.ifCond .eq 7, 3) := by decide +kernel
theorem dX11_judged_78 : decode cX11_judged 78 = .ok (.iconst 1, 1) := by decide +kernel
theorem dX11_judged_79 : decode cX11_judged 79 = .ok (.goto 4, 3) := by decide +kernel
theorem dX11_judged_82 : decode cX11_judged 82 = .ok (.iconst 0, 1) := by decide +kernel
theorem dX11_judged_83 : decode cX11_judged 83 = .ok (.ireturn, 1) := by decide +kernel
theorem dX11_judged_84 : decode cX11_judged 84 = .ok (.iconst (-1), 1) := by decide +kernel
theorem dX11_judged_85 : decode cX11_judged 85 = .ok (.ireturn, 1) := by decide +kernel
theorem b_X11_judged_0 {x1 : Int} {σ : St} {Q : Res → St → Prop} (h : (((σ 11 1 0) ≠ 0) → ((x1 = 0 → (Q (.inl (some (vI (σ 11 1 2)))) σ)) ∧ (x1 = 1 → (Q (.inl (some (vI (σ 11 1 3)))) σ)) ∧ (x1 = 2 → (Q (.inl (some (vI (σ 11 1 1)))) σ)) ∧ (x1 = 3 → ((((σ 11 1 5) = 0) → (Q (.inl (some (vI 0))) σ)) ∧ (((σ 11 1 5) ≠ 0) → (Q (.inl (some (vI 1))) σ)))) ∧ ((x1 < 0 ∨ 3 < x1) → (Q (.inl (some (vI (-1)))) σ)))) ∧ (((σ 11 1 0) = 0) → (Q (.inl (some (vI (-1)))) σ))) : WP mX11_judged 0 [vR 12 0, vI x1] [] σ Q := by
  refine wp_aload_n dX11_judged_0 rfl rfl ?_
  refine wp_getR dX11_judged_1 fl_CustomValley_66 rfl rfl ?_
  refine wp_getI dX11_judged_4 fl_CustomValley_319 rfl rfl rfl ?_
  refine wp_if_ne (tgt := 12) dX11_judged_7 (by decide) (fun hc => ?_) (fun hc => ?_)
  · replace h := h.1 hc
    refine wp_iload_n dX11_judged_12 rfl rfl ?_
    by_cases q0 : x1 = 0
    · refine wp_tsIn (tgt := 44) dX11_judged_13 (by omega) (by omega) (by rw [q0]; rfl) (by decide) ?_
      replace h := h.1 q0
      refine wp_aload_n dX11_judged_44 rfl rfl ?_
      refine wp_getR dX11_judged_45 fl_CustomValley_66 rfl rfl ?_
      refine wp_getI dX11_judged_48 fl_CustomValley_320 rfl rfl rfl ?_
      exact wp_iret dX11_judged_51 rfl h
    · replace h := h.2
      by_cases q1 : x1 = 1
      · refine wp_tsIn (tgt := 52) dX11_judged_13 (by omega) (by omega) (by rw [q1]; rfl) (by decide) ?_
        replace h := h.1 q1
        refine wp_aload_n dX11_judged_52 rfl rfl ?_
        refine wp_getR dX11_judged_53 fl_CustomValley_66 rfl rfl ?_
        refine wp_getI dX11_judged_56 fl_CustomValley_323 rfl rfl rfl ?_
        exact wp_iret dX11_judged_59 rfl h
      · replace h := h.2
        by_cases q2 : x1 = 2
        · refine wp_tsIn (tgt := 60) dX11_judged_13 (by omega) (by omega) (by rw [q2]; rfl) (by decide) ?_
          replace h := h.1 q2
          refine wp_aload_n dX11_judged_60 rfl rfl ?_
          refine wp_getR dX11_judged_61 fl_CustomValley_66 rfl rfl ?_
          refine wp_getI dX11_judged_64 fl_CustomValley_316 rfl rfl rfl ?_
          exact wp_iret dX11_judged_67 rfl h
        · replace h := h.2
          by_cases q3 : x1 = 3
          · refine wp_tsIn (tgt := 68) dX11_judged_13 (by omega) (by omega) (by rw [q3]; rfl) (by decide) ?_
            replace h := h.1 q3
            refine wp_aload_n dX11_judged_68 rfl rfl ?_
            refine wp_getR dX11_judged_69 fl_CustomValley_66 rfl rfl ?_
            refine wp_getI dX11_judged_72 fl_CustomValley_335 rfl rfl rfl ?_
            refine wp_if_eq (tgt := 82) dX11_judged_75 (by decide) (fun hc => ?_) (fun hc => ?_)
            · replace h := h.1 hc
              refine wp_iconst dX11_judged_82 rfl ?_
              exact wp_iret dX11_judged_83 rfl h
            · replace h := h.2 hc
              refine wp_iconst dX11_judged_78 rfl ?_
              refine wp_goto (tgt := 83) dX11_judged_79 (by decide) ?_
              exact wp_iret dX11_judged_83 rfl h
          · replace h := h.2
            refine wp_tsOut (tgt := 84) dX11_judged_13 (by omega) (by decide) ?_
            replace h := h (by omega)
            refine wp_iconst dX11_judged_84 rfl ?_
            exact wp_iret dX11_judged_85 rfl h
  · replace h := h.2 hc
    refine wp_iconst dX11_judged_10 rfl ?_
    exact wp_iret dX11_judged_11 rfl h
theorem dX11_way_0 : decode cX11_way 0 = .ok (.iload_n 1, 1) := by decide +kernel
theorem dX11_way_1 : decode cX11_way 1 = .ok (.iconst (-1), 1) := by decide +kernel
theorem dX11_way_2 : decode cX11_way 2 = .ok (.if_icmp .ne 8, 3) := by decide +kernel
theorem dX11_way_5 : decode cX11_way 5 = .ok (.aload_n 0, 1) := by decide +kernel
theorem dX11_way_6 : decode cX11_way 6 = .ok (.getfield 237, 3) := by decide +kernel
theorem dX11_way_9 : decode cX11_way 9 = .ok (.ireturn, 1) := by decide +kernel
theorem dX11_way_10 : decode cX11_way 10 = .ok (.iload_n 1, 1) := by decide +kernel
theorem dX11_way_11 : decode cX11_way 11 = .ok (.ifCond .lt 27, 3) := by decide +kernel
theorem dX11_way_14 : decode cX11_way 14 = .ok (.iload_n 1, 1) := by decide +kernel
theorem dX11_way_15 : decode cX11_way 15 = .ok (.aload_n 0, 1) := by decide +kernel
theorem dX11_way_16 : decode cX11_way 16 = .ok (.getfield 237, 3) := by decide +kernel
theorem dX11_way_19 : decode cX11_way 19 = .ok (.if_icmp .gt 19, 3) := by decide +kernel
theorem dX11_way_22 : decode cX11_way 22 = .ok (.iload_n 1, 1) := by decide +kernel
theorem dX11_way_23 : decode cX11_way 23 = .ok (.sipush 1024, 3) := by decide +kernel
theorem dX11_way_26 : decode cX11_way 26 = .ok (.if_icmp .ge 12, 3) := by decide +kernel
theorem dX11_way_29 : decode cX11_way 29 = .ok (.aload_n 0, 1) := by decide +kernel
theorem dX11_way_30 : decode cX11_way 30 = .ok (.getfield 76, 3) := by decide +kernel
theorem dX11_way_33 : decode cX11_way 33 = .ok (.iload_n 1, 1) := by decide +kernel
theorem dX11_way_34 : decode cX11_way 34 = .ok (.iaload, 1) := by decide +kernel
theorem dX11_way_35 : decode cX11_way 35 = .ok (.goto 4, 3) := by decide +kernel
theorem dX11_way_38 : decode cX11_way 38 = .ok (.iconst (-1), 1) := by decide +kernel
theorem dX11_way_39 : decode cX11_way 39 = .ok (.ireturn, 1) := by decide +kernel
theorem b_X11_way_0 {x1 : Int} {σ : St} {Q : Res → St → Prop} (h : ((x1 ≠ (-1)) → (((x1 < 0) → (Q (.inl (some (vI (-1)))) σ)) ∧ ((0 ≤ x1) → ((((σ 12 0 14) < x1) → (Q (.inl (some (vI (-1)))) σ)) ∧ ((x1 ≤ (σ 12 0 14)) → (((1024 ≤ x1) → (Q (.inl (some (vI (-1)))) σ)) ∧ ((x1 < 1024) → ((0 ≤ x1 ∧ x1 < 1024) ∧ (Q (.inl (some (vI (σ 63 0 x1.toNat)))) σ))))))))) ∧ ((x1 = (-1)) → (Q (.inl (some (vI (σ 12 0 14)))) σ))) : WP mX11_way 0 [vR 12 0, vI x1] [] σ Q := by
  refine wp_iload_n dX11_way_0 rfl rfl ?_
  refine wp_iconst dX11_way_1 rfl ?_
  refine wp_icmp_ne (tgt := 10) dX11_way_2 (by decide) (fun hc => ?_) (fun hc => ?_)
  · replace h := h.1 hc
    refine wp_iload_n dX11_way_10 rfl rfl ?_
    refine wp_if_lt (tgt := 38) dX11_way_11 (by decide) (fun hc => ?_) (fun hc => ?_)
    · replace h := h.1 hc
      refine wp_iconst dX11_way_38 rfl ?_
      exact wp_iret dX11_way_39 rfl h
    · replace h := h.2 hc
      refine wp_iload_n dX11_way_14 rfl rfl ?_
      refine wp_aload_n dX11_way_15 rfl rfl ?_
      refine wp_getI dX11_way_16 fl_CustomValley_237 rfl rfl rfl ?_
      refine wp_icmp_gt (tgt := 38) dX11_way_19 (by decide) (fun hc => ?_) (fun hc => ?_)
      · replace h := h.1 hc
        refine wp_iconst dX11_way_38 rfl ?_
        exact wp_iret dX11_way_39 rfl h
      · replace h := h.2 hc
        refine wp_iload_n dX11_way_22 rfl rfl ?_
        refine wp_sipush dX11_way_23 rfl ?_
        refine wp_icmp_ge (tgt := 38) dX11_way_26 (by decide) (fun hc => ?_) (fun hc => ?_)
        · replace h := h.1 hc
          refine wp_iconst dX11_way_38 rfl ?_
          exact wp_iret dX11_way_39 rfl h
        · replace h := h.2 hc
          refine wp_aload_n dX11_way_29 rfl rfl ?_
          refine wp_getR dX11_way_30 fl_CustomValley_76 rfl rfl ?_
          refine wp_iload_n dX11_way_33 rfl rfl ?_
          have s1 := h.1
          replace h := h.2
          refine wp_iaload dX11_way_34 rfl rfl s1.1 s1.2 ?_
          refine wp_goto (tgt := 39) dX11_way_35 (by decide) ?_
          exact wp_iret dX11_way_39 rfl h
  · replace h := h.2 hc
    refine wp_aload_n dX11_way_5 rfl rfl ?_
    refine wp_getI dX11_way_6 fl_CustomValley_237 rfl rfl rfl ?_
    exact wp_iret dX11_way_9 rfl h
theorem dX11_feed_0 : decode cX11_feed 0 = .ok (.aload_n 0, 1) := by decide +kernel
theorem dX11_feed_1 : decode cX11_feed 1 = .ok (.getfield 10, 3) := by decide +kernel
theorem dX11_feed_4 : decode cX11_feed 4 = .ok (.getfield 89, 3) := by decide +kernel
theorem dX11_feed_7 : decode cX11_feed 7 = .ok (.sipush 680, 3) := by decide +kernel
theorem dX11_feed_10 : decode cX11_feed 10 = .ok (.if_icmp .le 6, 3) := by decide +kernel
theorem dX11_feed_13 : decode cX11_feed 13 = .ok (.bipush (-3), 2) := by decide +kernel
theorem dX11_feed_15 : decode cX11_feed 15 = .ok (.ireturn, 1) := by decide +kernel
theorem dX11_feed_16 : decode cX11_feed 16 = .ok (.aload_n 0, 1) := by decide +kernel
theorem dX11_feed_17 : decode cX11_feed 17 = .ok (.getfield 10, 3) := by decide +kernel
theorem dX11_feed_20 : decode cX11_feed 20 = .ok (.iload_n 1, 1) := by decide +kernel
theorem dX11_feed_21 : decode cX11_feed 21 = .ok (.invokevirtual 93, 3) := by decide +kernel
theorem dX11_feed_24 : decode cX11_feed 24 = .ok (.aload_n 0, 1) := by decide +kernel
theorem dX11_feed_25 : decode cX11_feed 25 = .ok (.getfield 10, 3) := by decide +kernel
theorem dX11_feed_28 : decode cX11_feed 28 = .ok (.iload_n 2, 1) := by decide +kernel
theorem dX11_feed_29 : decode cX11_feed 29 = .ok (.invokevirtual 93, 3) := by decide +kernel
theorem dX11_feed_32 : decode cX11_feed 32 = .ok (.aload_n 0, 1) := by decide +kernel
theorem dX11_feed_33 : decode cX11_feed 33 = .ok (.getfield 10, 3) := by decide +kernel
theorem dX11_feed_36 : decode cX11_feed 36 = .ok (.iload_n 3, 1) := by decide +kernel
theorem dX11_feed_37 : decode cX11_feed 37 = .ok (.invokevirtual 93, 3) := by decide +kernel
theorem dX11_feed_40 : decode cX11_feed 40 = .ok (.aload_n 0, 1) := by decide +kernel
theorem dX11_feed_41 : decode cX11_feed 41 = .ok (.getfield 10, 3) := by decide +kernel
theorem dX11_feed_44 : decode cX11_feed 44 = .ok (.iload 4, 2) := by decide +kernel
theorem dX11_feed_46 : decode cX11_feed 46 = .ok (.invokevirtual 93, 3) := by decide +kernel
theorem dX11_feed_49 : decode cX11_feed 49 = .ok (.aload_n 0, 1) := by decide +kernel
theorem dX11_feed_50 : decode cX11_feed 50 = .ok (.getfield 10, 3) := by decide +kernel
theorem dX11_feed_53 : decode cX11_feed 53 = .ok (.iload 5, 2) := by decide +kernel
theorem dX11_feed_55 : decode cX11_feed 55 = .ok (.invokevirtual 93, 3) := by decide +kernel
theorem dX11_feed_58 : decode cX11_feed 58 = .ok (.aload_n 0, 1) := by decide +kernel
theorem dX11_feed_59 : decode cX11_feed 59 = .ok (.getfield 10, 3) := by decide +kernel
theorem dX11_feed_62 : decode cX11_feed 62 = .ok (.getfield 89, 3) := by decide +kernel
theorem dX11_feed_65 : decode cX11_feed 65 = .ok (.ireturn, 1) := by decide +kernel
theorem b_X11_feed_0 {x1 : Int} {x2 : Int} {x3 : Int} {x4 : Int} {x5 : Int} {σ : St} {Q : Res → St → Prop} (h : (((σ 8 0 1) ≤ 680) → (WP mX7_add 0 [vR 8 0, vI x1, vU] [] σ (CT mX11_feed 24 [vR 12 0, vU, vI x2, vI x3, vI x4, vI x5] [] Q))) ∧ ((680 < (σ 8 0 1)) → (Q (.inl (some (vI (-3)))) σ))) : WP mX11_feed 0 [vR 12 0, vI x1, vI x2, vI x3, vI x4, vI x5] [] σ Q := by
  refine wp_aload_n dX11_feed_0 rfl rfl ?_
  refine wp_getR dX11_feed_1 fl_CustomValley_10 rfl rfl ?_
  refine wp_getI dX11_feed_4 fl_CustomValley_89 rfl rfl rfl ?_
  refine wp_sipush dX11_feed_7 rfl ?_
  refine wp_icmp_le (tgt := 16) dX11_feed_10 (by decide) (fun hc => ?_) (fun hc => ?_)
  · replace h := h.1 hc
    refine wp_aload_n dX11_feed_16 rfl rfl ?_
    refine wp_getR dX11_feed_17 fl_CustomValley_10 rfl rfl ?_
    refine wp_iload_n dX11_feed_20 rfl rfl ?_
    refine wp_invV (N := mX7_add) [vI x1] dX11_feed_21 ml_CustomValley_93 mvX7_add rfl rfl rfl rfl rfl (Nat.le_of_ble_eq_true rfl) (Nat.le_of_ble_eq_true rfl) (by decide) (by decide) (by decide) ?_
    exact WP.mono h (ct_drop (lle_c (Or.inl rfl) (lle_c (Or.inr rfl) (lle_c (Or.inl rfl) (lle_c (Or.inl rfl) (lle_c (Or.inl rfl) (lle_c (Or.inl rfl) lle_n)))))))
  · replace h := h.2 hc
    refine wp_bipush dX11_feed_13 rfl ?_
    exact wp_iret dX11_feed_15 rfl h
theorem b_X11_feed_24 {x2 : Int} {x3 : Int} {x4 : Int} {x5 : Int} {σ : St} {Q : Res → St → Prop} (h : WP mX7_add 0 [vR 8 0, vI x2, vU] [] σ (CT mX11_feed 32 [vR 12 0, vU, vU, vI x3, vI x4, vI x5] [] Q)) : WP mX11_feed 24 [vR 12 0, vU, vI x2, vI x3, vI x4, vI x5] [] σ Q := by
  refine wp_aload_n dX11_feed_24 rfl rfl ?_
  refine wp_getR dX11_feed_25 fl_CustomValley_10 rfl rfl ?_
  refine wp_iload_n dX11_feed_28 rfl rfl ?_
  refine wp_invV (N := mX7_add) [vI x2] dX11_feed_29 ml_CustomValley_93 mvX7_add rfl rfl rfl rfl rfl (Nat.le_of_ble_eq_true rfl) (Nat.le_of_ble_eq_true rfl) (by decide) (by decide) (by decide) ?_
  exact WP.mono h (ct_drop (lle_c (Or.inl rfl) (lle_c (Or.inl rfl) (lle_c (Or.inr rfl) (lle_c (Or.inl rfl) (lle_c (Or.inl rfl) (lle_c (Or.inl rfl) lle_n)))))))
theorem b_X11_feed_32 {x3 : Int} {x4 : Int} {x5 : Int} {σ : St} {Q : Res → St → Prop} (h : WP mX7_add 0 [vR 8 0, vI x3, vU] [] σ (CT mX11_feed 40 [vR 12 0, vU, vU, vU, vI x4, vI x5] [] Q)) : WP mX11_feed 32 [vR 12 0, vU, vU, vI x3, vI x4, vI x5] [] σ Q := by
  refine wp_aload_n dX11_feed_32 rfl rfl ?_
  refine wp_getR dX11_feed_33 fl_CustomValley_10 rfl rfl ?_
  refine wp_iload_n dX11_feed_36 rfl rfl ?_
  refine wp_invV (N := mX7_add) [vI x3] dX11_feed_37 ml_CustomValley_93 mvX7_add rfl rfl rfl rfl rfl (Nat.le_of_ble_eq_true rfl) (Nat.le_of_ble_eq_true rfl) (by decide) (by decide) (by decide) ?_
  exact WP.mono h (ct_drop (lle_c (Or.inl rfl) (lle_c (Or.inl rfl) (lle_c (Or.inl rfl) (lle_c (Or.inr rfl) (lle_c (Or.inl rfl) (lle_c (Or.inl rfl) lle_n)))))))
theorem b_X11_feed_40 {x4 : Int} {x5 : Int} {σ : St} {Q : Res → St → Prop} (h : WP mX7_add 0 [vR 8 0, vI x4, vU] [] σ (CT mX11_feed 49 [vR 12 0, vU, vU, vU, vU, vI x5] [] Q)) : WP mX11_feed 40 [vR 12 0, vU, vU, vU, vI x4, vI x5] [] σ Q := by
  refine wp_aload_n dX11_feed_40 rfl rfl ?_
  refine wp_getR dX11_feed_41 fl_CustomValley_10 rfl rfl ?_
  refine wp_iload dX11_feed_44 rfl ?_
  refine wp_invV (N := mX7_add) [vI x4] dX11_feed_46 ml_CustomValley_93 mvX7_add rfl rfl rfl rfl rfl (Nat.le_of_ble_eq_true rfl) (Nat.le_of_ble_eq_true rfl) (by decide) (by decide) (by decide) ?_
  exact WP.mono h (ct_drop (lle_c (Or.inl rfl) (lle_c (Or.inl rfl) (lle_c (Or.inl rfl) (lle_c (Or.inl rfl) (lle_c (Or.inr rfl) (lle_c (Or.inl rfl) lle_n)))))))
theorem b_X11_feed_49 {x5 : Int} {σ : St} {Q : Res → St → Prop} (h : WP mX7_add 0 [vR 8 0, vI x5, vU] [] σ (CT mX11_feed 58 [vR 12 0, vU, vU, vU, vU, vU] [] Q)) : WP mX11_feed 49 [vR 12 0, vU, vU, vU, vU, vI x5] [] σ Q := by
  refine wp_aload_n dX11_feed_49 rfl rfl ?_
  refine wp_getR dX11_feed_50 fl_CustomValley_10 rfl rfl ?_
  refine wp_iload dX11_feed_53 rfl ?_
  refine wp_invV (N := mX7_add) [vI x5] dX11_feed_55 ml_CustomValley_93 mvX7_add rfl rfl rfl rfl rfl (Nat.le_of_ble_eq_true rfl) (Nat.le_of_ble_eq_true rfl) (by decide) (by decide) (by decide) ?_
  exact WP.mono h (ct_drop (lle_c (Or.inl rfl) (lle_c (Or.inl rfl) (lle_c (Or.inl rfl) (lle_c (Or.inl rfl) (lle_c (Or.inl rfl) (lle_c (Or.inr rfl) lle_n)))))))
theorem b_X11_feed_58  {σ : St} {Q : Res → St → Prop} (h : Q (.inl (some (vI (σ 8 0 1)))) σ) : WP mX11_feed 58 [vR 12 0, vU, vU, vU, vU, vU] [] σ Q := by
  refine wp_aload_n dX11_feed_58 rfl rfl ?_
  refine wp_getR dX11_feed_59 fl_CustomValley_10 rfl rfl ?_
  refine wp_getI dX11_feed_62 fl_CustomValley_89 rfl rfl rfl ?_
  exact wp_iret dX11_feed_65 rfl h
theorem dX11_forget_0 : decode cX11_forget 0 = .ok (.aload_n 0, 1) := by decide +kernel
theorem dX11_forget_1 : decode cX11_forget 1 = .ok (.iconst (-1), 1) := by decide +kernel
theorem dX11_forget_2 : decode cX11_forget 2 = .ok (.putfield 237, 3) := by decide +kernel
theorem dX11_forget_5 : decode cX11_forget 5 = .ok (.aload_n 0, 1) := by decide +kernel
theorem dX11_forget_6 : decode cX11_forget 6 = .ok (.iconst (-1), 1) := by decide +kernel
theorem dX11_forget_7 : decode cX11_forget 7 = .ok (.putfield 356, 3) := by decide +kernel
theorem dX11_forget_10 : decode cX11_forget 10 = .ok (.aload_n 0, 1) := by decide +kernel
theorem dX11_forget_11 : decode cX11_forget 11 = .ok (.bipush (-9), 2) := by decide +kernel
theorem dX11_forget_13 : decode cX11_forget 13 = .ok (.putfield 251, 3) := by decide +kernel
theorem dX11_forget_16 : decode cX11_forget 16 = .ok (.aload_n 0, 1) := by decide +kernel
theorem dX11_forget_17 : decode cX11_forget 17 = .ok (.bipush (-9), 2) := by decide +kernel
theorem dX11_forget_19 : decode cX11_forget 19 = .ok (.putfield 264, 3) := by decide +kernel
theorem dX11_forget_22 : decode cX11_forget 22 = .ok (.aload_n 0, 1) := by decide +kernel
theorem dX11_forget_23 : decode cX11_forget 23 = .ok (.getfield 80, 3) := by decide +kernel
theorem dX11_forget_26 : decode cX11_forget 26 = .ok (.bipush (-9), 2) := by decide +kernel
theorem dX11_forget_28 : decode cX11_forget 28 = .ok (.invokestatic 359, 3) := by decide +kernel
theorem dX11_forget_31 : decode cX11_forget 31 = .ok (.aload_n 0, 1) := by decide +kernel
theorem dX11_forget_32 : decode cX11_forget 32 = .ok (.getfield 83, 3) := by decide +kernel
theorem dX11_forget_35 : decode cX11_forget 35 = .ok (.bipush (-9), 2) := by decide +kernel
theorem dX11_forget_37 : decode cX11_forget 37 = .ok (.invokestatic 359, 3) := by decide +kernel
theorem dX11_forget_40 : decode cX11_forget 40 = .ok (.aload_n 0, 1) := by decide +kernel
theorem dX11_forget_41 : decode cX11_forget 41 = .ok (.getfield 48, 3) := by decide +kernel
theorem dX11_forget_44 : decode cX11_forget 44 = .ok (.iconst 0, 1) := by decide +kernel
theorem dX11_forget_45 : decode cX11_forget 45 = .ok (.putfield 365, 3) := by decide +kernel
theorem dX11_forget_48 : decode cX11_forget 48 = .ok (.aload_n 0, 1) := by decide +kernel
theorem dX11_forget_49 : decode cX11_forget 49 = .ok (.getfield 55, 3) := by decide +kernel
theorem dX11_forget_52 : decode cX11_forget 52 = .ok (.iconst 0, 1) := by decide +kernel
theorem dX11_forget_53 : decode cX11_forget 53 = .ok (.putfield 303, 3) := by decide +kernel
theorem dX11_forget_56 : decode cX11_forget 56 = .ok (.aload_n 0, 1) := by decide +kernel
theorem dX11_forget_57 : decode cX11_forget 57 = .ok (.getfield 62, 3) := by decide +kernel
theorem dX11_forget_60 : decode cX11_forget 60 = .ok (.iconst 0, 1) := by decide +kernel
theorem dX11_forget_61 : decode cX11_forget 61 = .ok (.putfield 319, 3) := by decide +kernel
theorem dX11_forget_64 : decode cX11_forget 64 = .ok (.return_, 1) := by decide +kernel
theorem b_X11_forget_0  {σ : St} {Q : Res → St → Prop} (h : WP mJ7_fill_53178 0 [vR 64 0, vI (-9), vU, vU] [] (up (up (up (up σ 12 0 14 (-1)) 12 0 15 (-1)) 12 0 16 (-9)) 12 0 17 (-9)) (CT mX11_forget 31 [vR 12 0] [] Q)) : WP mX11_forget 0 [vR 12 0] [] σ Q := by
  refine wp_aload_n dX11_forget_0 rfl rfl ?_
  refine wp_iconst dX11_forget_1 rfl ?_
  refine wp_putI dX11_forget_2 fp_CustomValley_237 rfl rfl rfl ?_
  refine wp_aload_n dX11_forget_5 rfl rfl ?_
  refine wp_iconst dX11_forget_6 rfl ?_
  refine wp_putI dX11_forget_7 fp_CustomValley_356 rfl rfl rfl ?_
  refine wp_aload_n dX11_forget_10 rfl rfl ?_
  refine wp_bipush dX11_forget_11 rfl ?_
  refine wp_putI dX11_forget_13 fp_CustomValley_251 rfl rfl rfl ?_
  refine wp_aload_n dX11_forget_16 rfl rfl ?_
  refine wp_bipush dX11_forget_17 rfl ?_
  refine wp_putI dX11_forget_19 fp_CustomValley_264 rfl rfl rfl ?_
  refine wp_aload_n dX11_forget_22 rfl rfl ?_
  refine wp_getR dX11_forget_23 fl_CustomValley_80 rfl rfl ?_
  refine wp_bipush dX11_forget_26 rfl ?_
  refine wp_invS (N := mJ7_fill_53178) [vR 64 0, vI (-9)] dX11_forget_28 ml_CustomValley_359 mvJ7_fill_53178 rfl rfl rfl (Nat.le_of_ble_eq_true rfl) (Nat.le_of_ble_eq_true rfl) (by decide) (by decide) ?_
  exact h
theorem b_X11_forget_31  {σ : St} {Q : Res → St → Prop} (h : WP mJ7_fill_53178 0 [vR 65 0, vI (-9), vU, vU] [] σ (CT mX11_forget 40 [vR 12 0] [] Q)) : WP mX11_forget 31 [vR 12 0] [] σ Q := by
  refine wp_aload_n dX11_forget_31 rfl rfl ?_
  refine wp_getR dX11_forget_32 fl_CustomValley_83 rfl rfl ?_
  refine wp_bipush dX11_forget_35 rfl ?_
  refine wp_invS (N := mJ7_fill_53178) [vR 65 0, vI (-9)] dX11_forget_37 ml_CustomValley_359 mvJ7_fill_53178 rfl rfl rfl (Nat.le_of_ble_eq_true rfl) (Nat.le_of_ble_eq_true rfl) (by decide) (by decide) ?_
  exact h
theorem b_X11_forget_40  {σ : St} {Q : Res → St → Prop} (h : Q (.inl none) (up (up (up σ 9 0 0 0) 1 0 0 0) 11 0 0 0)) : WP mX11_forget 40 [vR 12 0] [] σ Q := by
  refine wp_aload_n dX11_forget_40 rfl rfl ?_
  refine wp_getR dX11_forget_41 fl_CustomValley_48 rfl rfl ?_
  refine wp_iconst dX11_forget_44 rfl ?_
  refine wp_putI dX11_forget_45 fp_CustomValley_365 rfl rfl rfl ?_
  refine wp_aload_n dX11_forget_48 rfl rfl ?_
  refine wp_getR dX11_forget_49 fl_CustomValley_55 rfl rfl ?_
  refine wp_iconst dX11_forget_52 rfl ?_
  refine wp_putZ dX11_forget_53 fp_CustomValley_303 rfl rfl rfl (by decide) ?_
  refine wp_aload_n dX11_forget_56 rfl rfl ?_
  refine wp_getR dX11_forget_57 fl_CustomValley_62 rfl rfl ?_
  refine wp_iconst dX11_forget_60 rfl ?_
  refine wp_putZ dX11_forget_61 fp_CustomValley_319 rfl rfl rfl (by decide) ?_
  exact wp_ret dX11_forget_64 rfl h
theorem dX11_ran_0 : decode cX11_ran 0 = .ok (.aload_n 0, 1) := by decide +kernel
theorem dX11_ran_1 : decode cX11_ran 1 = .ok (.getfield 62, 3) := by decide +kernel
theorem dX11_ran_4 : decode cX11_ran 4 = .ok (.getfield 319, 3) := by decide +kernel
theorem dX11_ran_7 : decode cX11_ran 7 = .ok (.ifCond .ne 5, 3) := by decide +kernel
theorem dX11_ran_10 : decode cX11_ran 10 = .ok (.iconst (-1), 1) := by decide +kernel
theorem dX11_ran_11 : decode cX11_ran 11 = .ok (.ireturn, 1) := by decide +kernel
theorem dX11_ran_12 : decode cX11_ran 12 = .ok (.iload_n 1, 1) := by decide +kernel
theorem dX11_ran_13 : decode cX11_ran 13 = .ok (.tableswitch 51 0 2 #[27, 35, 43], 27) := by decide +kernel
theorem dX11_ran_40 : decode cX11_ran 40 = .ok (.aload_n 0, 1) := by decide +kernel
theorem dX11_ran_41 : decode cX11_ran 41 = .ok (.getfield 62, 3) := by decide +kernel
theorem dX11_ran_44 : decode cX11_ran 44 = .ok (.getfield 320, 3) := by decide +kernel
theorem dX11_ran_47 : decode cX11_ran 47 = .ok (.ireturn, 1) := by decide +kernel
theorem dX11_ran_48 : decode cX11_ran 48 = .ok (.aload_n 0, 1) := by decide +kernel
theorem dX11_ran_49 : decode cX11_ran 49 = .ok (.getfield 62, 3) := by decide +kernel
theorem dX11_ran_52 : decode cX11_ran 52 = .ok (.getfield 323, 3) := by decide +kernel
theorem dX11_ran_55 : decode cX11_ran 55 = .ok (.ireturn, 1) := by decide +kernel
theorem dX11_ran_56 : decode cX11_ran 56 = .ok (.aload_n 0, 1) := by decide +kernel
theorem dX11_ran_57 : decode cX11_ran 57 = .ok (.getfield 62, 3) := by decide +kernel
theorem dX11_ran_60 : decode cX11_ran 60 = .ok (.getfield 325, 3) := by decide +kernel
theorem dX11_ran_63 : decode cX11_ran 63 = .ok (.ireturn, 1) := by decide +kernel
theorem dX11_ran_64 : decode cX11_ran 64 = .ok (.iload_n 1, 1) := by decide +kernel
theorem dX11_ran_65 : decode cX11_ran 65 = .ok (.bipush 10, 2) := by decide +kernel
theorem dX11_ran_67 : decode cX11_ran 67 = .ok (.if_icmp .lt 24, 3) := by decide +kernel
theorem dX11_ran_70 : decode cX11_ran 70 = .ok (.aload_n 0, 1) := by decide +kernel
theorem dX11_ran_71 : decode cX11_ran 71 = .ok (.getfield 28, 3) := by decide +kernel
theorem dX11_ran_74 : decode cX11_ran 74 = .ok (.getfield 103, 3) := by decide +kernel
theorem dX11_ran_77 : decode cX11_ran 77 = .ok (.iload_n 1, 1) := by decide +kernel
theorem dX11_ran_78 : decode cX11_ran 78 = .ok (.bipush 10, 2) := by decide +kernel
theorem dX11_ran_80 : decode cX11_ran 80 = .ok (.isub, 1) := by decide +kernel
theorem dX11_ran_81 : decode cX11_ran 81 = .ok (.invokevirtual 155, 3) := by decide +kernel
theorem dX11_ran_84 : decode cX11_ran 84 = .ok (.ifCond .eq 7, 3) := by decide +kernel
theorem dX11_ran_87 : decode cX11_ran 87 = .ok (.iconst 1, 1) := by decide +kernel
theorem dX11_ran_88 : decode cX11_ran 88 = .ok (.goto 4, 3) := by decide +kernel
theorem dX11_ran_91 : decode cX11_ran 91 = .ok (.iconst 0, 1) := by decide +kernel
theorem dX11_ran_92 : decode cX11_ran 92 = .ok (.istore_n 2, 1) := by decide +kernel
theorem dX11_ran_93 : decode cX11_ran 93 = .ok (.iload_n 2, 1) := by decide +kernel
theorem dX11_ran_94 : decode cX11_ran 94 = .ok (.ifCond .eq 18, 3) := by decide +kernel
theorem dX11_ran_97 : decode cX11_ran 97 = .ok (.aload_n 0, 1) := by decide +kernel
theorem dX11_ran_98 : decode cX11_ran 98 = .ok (.getfield 62, 3) := by decide +kernel
theorem dX11_ran_101 : decode cX11_ran 101 = .ok (.getfield 328, 3) := by decide +kernel
theorem dX11_ran_104 : decode cX11_ran 104 = .ok (.iload_n 1, 1) := by decide +kernel
theorem dX11_ran_105 : decode cX11_ran 105 = .ok (.bipush 10, 2) := by decide +kernel
theorem dX11_ran_107 : decode cX11_ran 107 = .ok (.isub, 1) := by decide +kernel
theorem dX11_ran_108 : decode cX11_ran 108 = .ok (.iaload, 1) := by decide +kernel
theorem dX11_ran_109 : decode cX11_ran 109 = .ok (.goto 4, 3) := by decide +kernel
theorem dX11_ran_112 : decode cX11_ran 112 = .ok (.iconst (-1), 1) := by decide +kernel
theorem dX11_ran_113 : decode cX11_ran 113 = .ok (.ireturn, 1) := by decide +kernel
theorem b_X11_ran_0 {x1 : Int} {σ : St} {Q : Res → St → Prop} (h : (((σ 11 0 0) ≠ 0) → ((x1 = 0 → (Q (.inl (some (vI (σ 11 0 2)))) σ)) ∧ (x1 = 1 → (Q (.inl (some (vI (σ 11 0 3)))) σ)) ∧ (x1 = 2 → (Q (.inl (some (vI (σ 11 0 4)))) σ)) ∧ ((x1 < 0 ∨ 2 < x1) → (((x1 < 10) → (Q (.inl (some (vI (-1)))) σ)) ∧ ((10 ≤ x1) → ((in32 (x1 - 10)) ∧ (((¬ (0 ≤ (x1 - 10) ∧ (x1 - 10) < (σ 10 0 0))) → (Q (.inl (some (vI (-1)))) σ)) ∧ ((0 ≤ (x1 - 10) ∧ (x1 - 10) < (σ 10 0 0)) → ((in32 (x1 - 10)) ∧ ((0 ≤ x1 - 10 ∧ (x1 - 10) < 10) ∧ (Q (.inl (some (vI (σ 62 0 ((x1 - 10).toNat))))) σ))))))))))) ∧ (((σ 11 0 0) = 0) → (Q (.inl (some (vI (-1)))) σ))) : WP mX11_ran 0 [vR 12 0, vI x1, vU] [] σ Q := by
  refine wp_aload_n dX11_ran_0 rfl rfl ?_
  refine wp_getR dX11_ran_1 fl_CustomValley_62 rfl rfl ?_
  refine wp_getI dX11_ran_4 fl_CustomValley_319 rfl rfl rfl ?_
  refine wp_if_ne (tgt := 12) dX11_ran_7 (by decide) (fun hc => ?_) (fun hc => ?_)
  · replace h := h.1 hc
    refine wp_iload_n dX11_ran_12 rfl rfl ?_
    by_cases q0 : x1 = 0
    · refine wp_tsIn (tgt := 40) dX11_ran_13 (by omega) (by omega) (by rw [q0]; rfl) (by decide) ?_
      replace h := h.1 q0
      refine wp_aload_n dX11_ran_40 rfl rfl ?_
      refine wp_getR dX11_ran_41 fl_CustomValley_62 rfl rfl ?_
      refine wp_getI dX11_ran_44 fl_CustomValley_320 rfl rfl rfl ?_
      exact wp_iret dX11_ran_47 rfl h
    · replace h := h.2
      by_cases q1 : x1 = 1
      · refine wp_tsIn (tgt := 48) dX11_ran_13 (by omega) (by omega) (by rw [q1]; rfl) (by decide) ?_
        replace h := h.1 q1
        refine wp_aload_n dX11_ran_48 rfl rfl ?_
        refine wp_getR dX11_ran_49 fl_CustomValley_62 rfl rfl ?_
        refine wp_getI dX11_ran_52 fl_CustomValley_323 rfl rfl rfl ?_
        exact wp_iret dX11_ran_55 rfl h
      · replace h := h.2
        by_cases q2 : x1 = 2
        · refine wp_tsIn (tgt := 56) dX11_ran_13 (by omega) (by omega) (by rw [q2]; rfl) (by decide) ?_
          replace h := h.1 q2
          refine wp_aload_n dX11_ran_56 rfl rfl ?_
          refine wp_getR dX11_ran_57 fl_CustomValley_62 rfl rfl ?_
          refine wp_getI dX11_ran_60 fl_CustomValley_325 rfl rfl rfl ?_
          exact wp_iret dX11_ran_63 rfl h
        · replace h := h.2
          refine wp_tsOut (tgt := 64) dX11_ran_13 (by omega) (by decide) ?_
          replace h := h (by omega)
          refine wp_iload_n dX11_ran_64 rfl rfl ?_
          refine wp_bipush dX11_ran_65 rfl ?_
          refine wp_icmp_lt (tgt := 91) dX11_ran_67 (by decide) (fun hc => ?_) (fun hc => ?_)
          · replace h := h.1 hc
            refine wp_iconst dX11_ran_91 rfl ?_
            refine wp_istore_n dX11_ran_92 rfl (by decide) rfl rfl ?_
            refine wp_iload_n dX11_ran_93 rfl rfl ?_
            refine wp_if_eq (tgt := 112) dX11_ran_94 (by decide) (fun hc => ?_) (fun hc => absurd hc (by decide))
            refine wp_iconst dX11_ran_112 rfl ?_
            exact wp_iret dX11_ran_113 rfl h
          · replace h := h.2 hc
            refine wp_aload_n dX11_ran_70 rfl rfl ?_
            refine wp_getR dX11_ran_71 fl_CustomValley_28 rfl rfl ?_
            refine wp_getR dX11_ran_74 fl_CustomValley_103 rfl rfl ?_
            refine wp_iload_n dX11_ran_77 rfl rfl ?_
            refine wp_bipush dX11_ran_78 rfl ?_
            have s3 := h.1
            replace h := h.2
            refine wp_isub dX11_ran_80 ?_ (h1 := s3.1) (h2 := s3.2)
            refine wp_invV (N := mX9_isPerson) [vI (x1 - 10)] dX11_ran_81 ml_CustomValley_155 mvX9_isPerson rfl rfl rfl rfl rfl (Nat.le_of_ble_eq_true rfl) (Nat.le_of_ble_eq_true rfl) (by decide) (by decide) (by decide) ?_
            refine pb_X9_isPerson (by trivial) ?_
            show WP mX11_ran 84 [vR 12 0, vI x1, vU] [vI (b2 (0 ≤ (x1 - 10) ∧ (x1 - 10) < (σ 10 0 0)))] σ Q
            refine wp_if_eq (tgt := 91) dX11_ran_84 (by decide) (fun hc => ?_) (fun hc => ?_)
            · replace h := h.1 (b2_eq hc)
              refine wp_iconst dX11_ran_91 rfl ?_
              refine wp_istore_n dX11_ran_92 rfl (by decide) rfl rfl ?_
              refine wp_iload_n dX11_ran_93 rfl rfl ?_
              refine wp_if_eq (tgt := 112) dX11_ran_94 (by decide) (fun hc => ?_) (fun hc => absurd hc (by decide))
              refine wp_iconst dX11_ran_112 rfl ?_
              exact wp_iret dX11_ran_113 rfl h
            · replace h := h.2 (b2_ne hc)
              refine wp_iconst dX11_ran_87 rfl ?_
              refine wp_goto (tgt := 92) dX11_ran_88 (by decide) ?_
              refine wp_istore_n dX11_ran_92 rfl (by decide) rfl rfl ?_
              refine wp_iload_n dX11_ran_93 rfl rfl ?_
              refine wp_if_eq (tgt := 112) dX11_ran_94 (by decide) (fun hc => absurd hc (by decide)) (fun hc => ?_)
              refine wp_aload_n dX11_ran_97 rfl rfl ?_
              refine wp_getR dX11_ran_98 fl_CustomValley_62 rfl rfl ?_
              refine wp_getR dX11_ran_101 fl_CustomValley_328 rfl rfl ?_
              refine wp_iload_n dX11_ran_104 rfl rfl ?_
              refine wp_bipush dX11_ran_105 rfl ?_
              have s2 := h.1
              replace h := h.2
              refine wp_isub dX11_ran_107 ?_ (h1 := s2.1) (h2 := s2.2)
              have s1 := h.1
              replace h := h.2
              refine wp_iaload dX11_ran_108 rfl rfl s1.1 s1.2 ?_
              refine wp_goto (tgt := 113) dX11_ran_109 (by decide) ?_
              exact wp_iret dX11_ran_113 rfl h
  · replace h := h.2 hc
    refine wp_iconst dX11_ran_10 rfl ?_
    exact wp_iret dX11_ran_11 rfl h
theorem dX11_toldOfOne_0 : decode cX11_toldOfOne 0 = .ok (.iload_n 1, 1) := by decide +kernel
theorem dX11_toldOfOne_1 : decode cX11_toldOfOne 1 = .ok (.bipush 10, 2) := by decide +kernel
theorem dX11_toldOfOne_3 : decode cX11_toldOfOne 3 = .ok (.if_icmp .lt 24, 3) := by decide +kernel
theorem dX11_toldOfOne_6 : decode cX11_toldOfOne 6 = .ok (.aload_n 0, 1) := by decide +kernel
theorem dX11_toldOfOne_7 : decode cX11_toldOfOne 7 = .ok (.iload_n 1, 1) := by decide +kernel
theorem dX11_toldOfOne_8 : decode cX11_toldOfOne 8 = .ok (.bipush 10, 2) := by decide +kernel
theorem dX11_toldOfOne_10 : decode cX11_toldOfOne 10 = .ok (.isub, 1) := by decide +kernel
theorem dX11_toldOfOne_11 : decode cX11_toldOfOne 11 = .ok (.invokevirtual 177, 3) := by decide +kernel
theorem dX11_toldOfOne_14 : decode cX11_toldOfOne 14 = .ok (.ifCond .eq 13, 3) := by decide +kernel
theorem dX11_toldOfOne_17 : decode cX11_toldOfOne 17 = .ok (.aload_n 0, 1) := by decide +kernel
theorem dX11_toldOfOne_18 : decode cX11_toldOfOne 18 = .ok (.getfield 367, 3) := by decide +kernel
theorem dX11_toldOfOne_21 : decode cX11_toldOfOne 21 = .ok (.iload_n 1, 1) := by decide +kernel
theorem dX11_toldOfOne_22 : decode cX11_toldOfOne 22 = .ok (.bipush 10, 2) := by decide +kernel
theorem dX11_toldOfOne_24 : decode cX11_toldOfOne 24 = .ok (.isub, 1) := by decide +kernel
theorem dX11_toldOfOne_25 : decode cX11_toldOfOne 25 = .ok (.iaload, 1) := by decide +kernel
theorem dX11_toldOfOne_26 : decode cX11_toldOfOne 26 = .ok (.ireturn, 1) := by decide +kernel
theorem dX11_toldOfOne_27 : decode cX11_toldOfOne 27 = .ok (.iload_n 1, 1) := by decide +kernel
theorem dX11_toldOfOne_28 : decode cX11_toldOfOne 28 = .ok (.bipush 20, 2) := by decide +kernel
theorem dX11_toldOfOne_30 : decode cX11_toldOfOne 30 = .ok (.if_icmp .lt 24, 3) := by decide +kernel
theorem dX11_toldOfOne_33 : decode cX11_toldOfOne 33 = .ok (.aload_n 0, 1) := by decide +kernel
theorem dX11_toldOfOne_34 : decode cX11_toldOfOne 34 = .ok (.iload_n 1, 1) := by decide +kernel
theorem dX11_toldOfOne_35 : decode cX11_toldOfOne 35 = .ok (.bipush 20, 2) := by decide +kernel
theorem dX11_toldOfOne_37 : decode cX11_toldOfOne 37 = .ok (.isub, 1) := by decide +kernel
theorem dX11_toldOfOne_38 : decode cX11_toldOfOne 38 = .ok (.invokevirtual 155, 3) := by decide +kernel
theorem dX11_toldOfOne_41 : decode cX11_toldOfOne 41 = .ok (.ifCond .eq 13, 3) := by decide +kernel
theorem dX11_toldOfOne_44 : decode cX11_toldOfOne 44 = .ok (.aload_n 0, 1) := by decide +kernel
theorem dX11_toldOfOne_45 : decode cX11_toldOfOne 45 = .ok (.getfield 369, 3) := by decide +kernel
theorem dX11_toldOfOne_48 : decode cX11_toldOfOne 48 = .ok (.iload_n 1, 1) := by decide +kernel
theorem dX11_toldOfOne_49 : decode cX11_toldOfOne 49 = .ok (.bipush 20, 2) := by decide +kernel
theorem dX11_toldOfOne_51 : decode cX11_toldOfOne 51 = .ok (.isub, 1) := by decide +kernel
theorem dX11_toldOfOne_52 : decode cX11_toldOfOne 52 = .ok (.iaload, 1) := by decide +kernel
theorem dX11_toldOfOne_53 : decode cX11_toldOfOne 53 = .ok (.ireturn, 1) := by decide +kernel
theorem dX11_toldOfOne_54 : decode cX11_toldOfOne 54 = .ok (.iload_n 1, 1) := by decide +kernel
theorem dX11_toldOfOne_55 : decode cX11_toldOfOne 55 = .ok (.bipush 60, 2) := by decide +kernel
theorem dX11_toldOfOne_57 : decode cX11_toldOfOne 57 = .ok (.if_icmp .lt 28, 3) := by decide +kernel
theorem dX11_toldOfOne_60 : decode cX11_toldOfOne 60 = .ok (.aload_n 0, 1) := by decide +kernel
theorem dX11_toldOfOne_61 : decode cX11_toldOfOne 61 = .ok (.iload_n 1, 1) := by decide +kernel
theorem dX11_toldOfOne_62 : decode cX11_toldOfOne 62 = .ok (.bipush 60, 2) := by decide +kernel
theorem dX11_toldOfOne_64 : decode cX11_toldOfOne 64 = .ok (.isub, 1) := by decide +kernel
theorem dX11_toldOfOne_65 : decode cX11_toldOfOne 65 = .ok (.invokevirtual 155, 3) := by decide +kernel
theorem dX11_toldOfOne_68 : decode cX11_toldOfOne 68 = .ok (.ifCond .eq 15, 3) := by decide +kernel
theorem dX11_toldOfOne_71 : decode cX11_toldOfOne 71 = .ok (.aload_n 0, 1) := by decide +kernel
theorem dX11_toldOfOne_72 : decode cX11_toldOfOne 72 = .ok (.getfield 372, 3) := by decide +kernel
theorem dX11_toldOfOne_75 : decode cX11_toldOfOne 75 = .ok (.iload_n 1, 1) := by decide +kernel
theorem dX11_toldOfOne_76 : decode cX11_toldOfOne 76 = .ok (.bipush 60, 2) := by decide +kernel
theorem dX11_toldOfOne_78 : decode cX11_toldOfOne 78 = .ok (.isub, 1) := by decide +kernel
theorem dX11_toldOfOne_79 : decode cX11_toldOfOne 79 = .ok (.iaload, 1) := by decide +kernel
theorem dX11_toldOfOne_80 : decode cX11_toldOfOne 80 = .ok (.goto 4, 3) := by decide +kernel
theorem dX11_toldOfOne_83 : decode cX11_toldOfOne 83 = .ok (.iconst (-1), 1) := by decide +kernel
theorem dX11_toldOfOne_84 : decode cX11_toldOfOne 84 = .ok (.ireturn, 1) := by decide +kernel
theorem dX11_toldOfOne_85 : decode cX11_toldOfOne 85 = .ok (.iload_n 1, 1) := by decide +kernel
theorem dX11_toldOfOne_86 : decode cX11_toldOfOne 86 = .ok (.bipush 40, 2) := by decide +kernel
theorem dX11_toldOfOne_88 : decode cX11_toldOfOne 88 = .ok (.if_icmp .ge 5, 3) := by decide +kernel
theorem dX11_toldOfOne_91 : decode cX11_toldOfOne 91 = .ok (.iconst (-1), 1) := by decide +kernel
theorem dX11_toldOfOne_92 : decode cX11_toldOfOne 92 = .ok (.ireturn, 1) := by decide +kernel
theorem dX11_toldOfOne_93 : decode cX11_toldOfOne 93 = .ok (.iload_n 1, 1) := by decide +kernel
theorem dX11_toldOfOne_94 : decode cX11_toldOfOne 94 = .ok (.bipush 40, 2) := by decide +kernel
theorem dX11_toldOfOne_96 : decode cX11_toldOfOne 96 = .ok (.isub, 1) := by decide +kernel
theorem dX11_toldOfOne_97 : decode cX11_toldOfOne 97 = .ok (.iconst 4, 1) := by decide +kernel
theorem dX11_toldOfOne_98 : decode cX11_toldOfOne 98 = .ok (.idiv, 1) := by decide +kernel
theorem dX11_toldOfOne_99 : decode cX11_toldOfOne 99 = .ok (.istore_n 2, 1) := by decide +kernel
theorem dX11_toldOfOne_100 : decode cX11_toldOfOne 100 = .ok (.iload_n 1, 1) := by decide +kernel
theorem dX11_toldOfOne_101 : decode cX11_toldOfOne 101 = .ok (.bipush 40, 2) := by decide +kernel
theorem dX11_toldOfOne_103 : decode cX11_toldOfOne 103 = .ok (.isub, 1) := by decide +kernel
theorem dX11_toldOfOne_104 : decode cX11_toldOfOne 104 = .ok (.iconst 4, 1) := by decide +kernel
theorem dX11_toldOfOne_105 : decode cX11_toldOfOne 105 = .ok (.irem, 1) := by decide +kernel
theorem dX11_toldOfOne_106 : decode cX11_toldOfOne 106 = .ok (.istore_n 3, 1) := by decide +kernel
theorem dX11_toldOfOne_107 : decode cX11_toldOfOne 107 = .ok (.aload_n 0, 1) := by decide +kernel
theorem dX11_toldOfOne_108 : decode cX11_toldOfOne 108 = .ok (.iload_n 2, 1) := by decide +kernel
theorem dX11_toldOfOne_109 : decode cX11_toldOfOne 109 = .ok (.invokevirtual 177, 3) := by decide +kernel
theorem dX11_toldOfOne_112 : decode cX11_toldOfOne 112 = .ok (.ifCond .eq 24, 3) := by decide +kernel
theorem dX11_toldOfOne_115 : decode cX11_toldOfOne 115 = .ok (.aload_n 0, 1) := by decide +kernel
theorem dX11_toldOfOne_116 : decode cX11_toldOfOne 116 = .ok (.iload_n 3, 1) := by decide +kernel
theorem dX11_toldOfOne_117 : decode cX11_toldOfOne 117 = .ok (.invokevirtual 177, 3) := by decide +kernel
theorem dX11_toldOfOne_120 : decode cX11_toldOfOne 120 = .ok (.ifCond .eq 16, 3) := by decide +kernel
theorem dX11_toldOfOne_123 : decode cX11_toldOfOne 123 = .ok (.aload_n 0, 1) := by decide +kernel
theorem dX11_toldOfOne_124 : decode cX11_toldOfOne 124 = .ok (.getfield 375, 3) := by decide +kernel
theorem dX11_toldOfOne_127 : decode cX11_toldOfOne 127 = .ok (.iload_n 2, 1) := by decide +kernel
theorem dX11_toldOfOne_128 : decode cX11_toldOfOne 128 = .ok (.iconst 4, 1) := by decide +kernel
theorem dX11_toldOfOne_129 : decode cX11_toldOfOne 129 = .ok (.imul, 1) := by decide +kernel
theorem dX11_toldOfOne_130 : decode cX11_toldOfOne 130 = .ok (.iload_n 3, 1) := by decide +kernel
theorem dX11_toldOfOne_131 : decode cX11_toldOfOne 131 = .ok (.iadd, 1) := by decide +kernel
theorem dX11_toldOfOne_132 : decode cX11_toldOfOne 132 = .ok (.iaload, 1) := by decide +kernel
theorem dX11_toldOfOne_133 : decode cX11_toldOfOne 133 = .ok (.goto 4, 3) := by decide +kernel
theorem dX11_toldOfOne_136 : decode cX11_toldOfOne 136 = .ok (.iconst (-1), 1) := by decide +kernel
theorem dX11_toldOfOne_137 : decode cX11_toldOfOne 137 = .ok (.ireturn, 1) := by decide +kernel
theorem b_X11_toldOfOne_0 {j : Nat} {x1 : Int} {σ : St} {Q : Res → St → Prop} (h : ((x1 < 10) → (WP mX11_toldOfOne 27 [vR 10 j, vI x1, vU, vU] [] σ Q)) ∧ ((10 ≤ x1) → ((in32 (x1 - 10)) ∧ (((¬ (0 ≤ (x1 - 10) ∧ (x1 - 10) < (σ 10 j 1))) → (WP mX11_toldOfOne 27 [vR 10 j, vI x1, vU, vU] [] σ Q)) ∧ ((0 ≤ (x1 - 10) ∧ (x1 - 10) < (σ 10 j 1)) → ((in32 (x1 - 10)) ∧ ((0 ≤ x1 - 10 ∧ (x1 - 10) < 4) ∧ (Q (.inl (some (vI (σ 55 j ((x1 - 10).toNat))))) σ)))))))) : WP mX11_toldOfOne 0 [vR 10 j, vI x1, vU, vU] [] σ Q := by
  refine wp_iload_n dX11_toldOfOne_0 rfl rfl ?_
  refine wp_bipush dX11_toldOfOne_1 rfl ?_
  refine wp_icmp_lt (tgt := 27) dX11_toldOfOne_3 (by decide) (fun hc => ?_) (fun hc => ?_)
  · replace h := h.1 hc
    exact h
  · replace h := h.2 hc
    refine wp_aload_n dX11_toldOfOne_6 rfl rfl ?_
    refine wp_iload_n dX11_toldOfOne_7 rfl rfl ?_
    refine wp_bipush dX11_toldOfOne_8 rfl ?_
    have s3 := h.1
    replace h := h.2
    refine wp_isub dX11_toldOfOne_10 ?_ (h1 := s3.1) (h2 := s3.2)
    refine wp_invV (N := mX9_isHabit) [vI (x1 - 10)] dX11_toldOfOne_11 ml_CustomValley_177 mvX9_isHabit rfl rfl rfl rfl rfl (Nat.le_of_ble_eq_true rfl) (Nat.le_of_ble_eq_true rfl) (by decide) (by decide) (by decide) ?_
    refine pb_X9_isHabit (by trivial) ?_
    show WP mX11_toldOfOne 14 [vR 10 j, vI x1, vU, vU] [vI (b2 (0 ≤ (x1 - 10) ∧ (x1 - 10) < (σ 10 j 1)))] σ Q
    refine wp_if_eq (tgt := 27) dX11_toldOfOne_14 (by decide) (fun hc => ?_) (fun hc => ?_)
    · replace h := h.1 (b2_eq hc)
      exact h
    · replace h := h.2 (b2_ne hc)
      refine wp_aload_n dX11_toldOfOne_17 rfl rfl ?_
      refine wp_getR dX11_toldOfOne_18 fl_CustomValley_367 rfl rfl ?_
      refine wp_iload_n dX11_toldOfOne_21 rfl rfl ?_
      refine wp_bipush dX11_toldOfOne_22 rfl ?_
      have s2 := h.1
      replace h := h.2
      refine wp_isub dX11_toldOfOne_24 ?_ (h1 := s2.1) (h2 := s2.2)
      have s1 := h.1
      replace h := h.2
      refine wp_iaload dX11_toldOfOne_25 rfl rfl s1.1 s1.2 ?_
      exact wp_iret dX11_toldOfOne_26 rfl h
theorem b_X11_toldOfOne_27 {j : Nat} {x1 : Int} {σ : St} {Q : Res → St → Prop} (h : ((x1 < 20) → (WP mX11_toldOfOne 54 [vR 10 j, vI x1, vU, vU] [] σ Q)) ∧ ((20 ≤ x1) → ((in32 (x1 - 20)) ∧ (((¬ (0 ≤ (x1 - 20) ∧ (x1 - 20) < (σ 10 j 0))) → (WP mX11_toldOfOne 54 [vR 10 j, vI x1, vU, vU] [] σ Q)) ∧ ((0 ≤ (x1 - 20) ∧ (x1 - 20) < (σ 10 j 0)) → ((in32 (x1 - 20)) ∧ ((0 ≤ x1 - 20 ∧ (x1 - 20) < 10) ∧ (Q (.inl (some (vI (σ 56 j ((x1 - 20).toNat))))) σ)))))))) : WP mX11_toldOfOne 27 [vR 10 j, vI x1, vU, vU] [] σ Q := by
  refine wp_iload_n dX11_toldOfOne_27 rfl rfl ?_
  refine wp_bipush dX11_toldOfOne_28 rfl ?_
  refine wp_icmp_lt (tgt := 54) dX11_toldOfOne_30 (by decide) (fun hc => ?_) (fun hc => ?_)
  · replace h := h.1 hc
    exact h
  · replace h := h.2 hc
    refine wp_aload_n dX11_toldOfOne_33 rfl rfl ?_
    refine wp_iload_n dX11_toldOfOne_34 rfl rfl ?_
    refine wp_bipush dX11_toldOfOne_35 rfl ?_
    have s3 := h.1
    replace h := h.2
    refine wp_isub dX11_toldOfOne_37 ?_ (h1 := s3.1) (h2 := s3.2)
    refine wp_invV (N := mX9_isPerson) [vI (x1 - 20)] dX11_toldOfOne_38 ml_CustomValley_155 mvX9_isPerson rfl rfl rfl rfl rfl (Nat.le_of_ble_eq_true rfl) (Nat.le_of_ble_eq_true rfl) (by decide) (by decide) (by decide) ?_
    refine pb_X9_isPerson (by trivial) ?_
    show WP mX11_toldOfOne 41 [vR 10 j, vI x1, vU, vU] [vI (b2 (0 ≤ (x1 - 20) ∧ (x1 - 20) < (σ 10 j 0)))] σ Q
    refine wp_if_eq (tgt := 54) dX11_toldOfOne_41 (by decide) (fun hc => ?_) (fun hc => ?_)
    · replace h := h.1 (b2_eq hc)
      exact h
    · replace h := h.2 (b2_ne hc)
      refine wp_aload_n dX11_toldOfOne_44 rfl rfl ?_
      refine wp_getR dX11_toldOfOne_45 fl_CustomValley_369 rfl rfl ?_
      refine wp_iload_n dX11_toldOfOne_48 rfl rfl ?_
      refine wp_bipush dX11_toldOfOne_49 rfl ?_
      have s2 := h.1
      replace h := h.2
      refine wp_isub dX11_toldOfOne_51 ?_ (h1 := s2.1) (h2 := s2.2)
      have s1 := h.1
      replace h := h.2
      refine wp_iaload dX11_toldOfOne_52 rfl rfl s1.1 s1.2 ?_
      exact wp_iret dX11_toldOfOne_53 rfl h
theorem b_X11_toldOfOne_54 {j : Nat} {x1 : Int} {σ : St} {Q : Res → St → Prop} (h : ((x1 < 60) → (((40 ≤ x1) → ((in32 (x1 - 40)) ∧ ((0 ≤ x1 - 40) ∧ ((in32 (x1 - 40)) ∧ ((0 ≤ x1 - 40) ∧ (((¬ (0 ≤ ((x1 - 40) / 4) ∧ ((x1 - 40) / 4) < (σ 10 j 1))) → (Q (.inl (some (vI (-1)))) σ)) ∧ ((0 ≤ ((x1 - 40) / 4) ∧ ((x1 - 40) / 4) < (σ 10 j 1)) → (((¬ (0 ≤ ((x1 - 40) % 4) ∧ ((x1 - 40) % 4) < (σ 10 j 1))) → (Q (.inl (some (vI (-1)))) σ)) ∧ ((0 ≤ ((x1 - 40) % 4) ∧ ((x1 - 40) % 4) < (σ 10 j 1)) → ((in32 (((x1 - 40) / 4) * 4)) ∧ ((in32 ((((x1 - 40) / 4) * 4) + ((x1 - 40) % 4))) ∧ ((0 ≤ (((x1 - 40) / 4) * 4) + ((x1 - 40) % 4) ∧ ((((x1 - 40) / 4) * 4) + ((x1 - 40) % 4)) < 16) ∧ (Q (.inl (some (vI (σ 54 j (((((x1 - 40) / 4) * 4) + ((x1 - 40) % 4)).toNat))))) σ))))))))))))) ∧ ((x1 < 40) → (Q (.inl (some (vI (-1)))) σ)))) ∧ ((60 ≤ x1) → ((in32 (x1 - 60)) ∧ (((¬ (0 ≤ (x1 - 60) ∧ (x1 - 60) < (σ 10 j 0))) → (Q (.inl (some (vI (-1)))) σ)) ∧ ((0 ≤ (x1 - 60) ∧ (x1 - 60) < (σ 10 j 0)) → ((in32 (x1 - 60)) ∧ ((0 ≤ x1 - 60 ∧ (x1 - 60) < 10) ∧ (Q (.inl (some (vI (σ 57 j ((x1 - 60).toNat))))) σ)))))))) : WP mX11_toldOfOne 54 [vR 10 j, vI x1, vU, vU] [] σ Q := by
  refine wp_iload_n dX11_toldOfOne_54 rfl rfl ?_
  refine wp_bipush dX11_toldOfOne_55 rfl ?_
  refine wp_icmp_lt (tgt := 85) dX11_toldOfOne_57 (by decide) (fun hc => ?_) (fun hc => ?_)
  · replace h := h.1 hc
    refine wp_iload_n dX11_toldOfOne_85 rfl rfl ?_
    refine wp_bipush dX11_toldOfOne_86 rfl ?_
    refine wp_icmp_ge (tgt := 93) dX11_toldOfOne_88 (by decide) (fun hc => ?_) (fun hc => ?_)
    · replace h := h.1 hc
      refine wp_iload_n dX11_toldOfOne_93 rfl rfl ?_
      refine wp_bipush dX11_toldOfOne_94 rfl ?_
      have s7 := h.1
      replace h := h.2
      refine wp_isub dX11_toldOfOne_96 ?_ (h1 := s7.1) (h2 := s7.2)
      refine wp_iconst dX11_toldOfOne_97 rfl ?_
      have s6 := h.1
      replace h := h.2
      refine wp_idiv dX11_toldOfOne_98 ?_ (h1 := s6) (h2 := by decide)
      refine wp_istore_n dX11_toldOfOne_99 rfl (by decide) rfl rfl ?_
      refine wp_iload_n dX11_toldOfOne_100 rfl rfl ?_
      refine wp_bipush dX11_toldOfOne_101 rfl ?_
      have s5 := h.1
      replace h := h.2
      refine wp_isub dX11_toldOfOne_103 ?_ (h1 := s5.1) (h2 := s5.2)
      refine wp_iconst dX11_toldOfOne_104 rfl ?_
      have s4 := h.1
      replace h := h.2
      refine wp_irem dX11_toldOfOne_105 ?_ (h1 := s4) (h2 := by decide)
      refine wp_istore_n dX11_toldOfOne_106 rfl (by decide) rfl rfl ?_
      refine wp_aload_n dX11_toldOfOne_107 rfl rfl ?_
      refine wp_iload_n dX11_toldOfOne_108 rfl rfl ?_
      refine wp_invV (N := mX9_isHabit) [vI ((x1 - 40) / 4)] dX11_toldOfOne_109 ml_CustomValley_177 mvX9_isHabit rfl rfl rfl rfl rfl (Nat.le_of_ble_eq_true rfl) (Nat.le_of_ble_eq_true rfl) (by decide) (by decide) (by decide) ?_
      refine pb_X9_isHabit (by trivial) ?_
      show WP mX11_toldOfOne 112 [vR 10 j, vI x1, vI ((x1 - 40) / 4), vI ((x1 - 40) % 4)] [vI (b2 (0 ≤ ((x1 - 40) / 4) ∧ ((x1 - 40) / 4) < (σ 10 j 1)))] σ Q
      refine wp_if_eq (tgt := 136) dX11_toldOfOne_112 (by decide) (fun hc => ?_) (fun hc => ?_)
      · replace h := h.1 (b2_eq hc)
        refine wp_iconst dX11_toldOfOne_136 rfl ?_
        exact wp_iret dX11_toldOfOne_137 rfl h
      · replace h := h.2 (b2_ne hc)
        refine wp_aload_n dX11_toldOfOne_115 rfl rfl ?_
        refine wp_iload_n dX11_toldOfOne_116 rfl rfl ?_
        refine wp_invV (N := mX9_isHabit) [vI ((x1 - 40) % 4)] dX11_toldOfOne_117 ml_CustomValley_177 mvX9_isHabit rfl rfl rfl rfl rfl (Nat.le_of_ble_eq_true rfl) (Nat.le_of_ble_eq_true rfl) (by decide) (by decide) (by decide) ?_
        refine pb_X9_isHabit (by trivial) ?_
        show WP mX11_toldOfOne 120 [vR 10 j, vI x1, vI ((x1 - 40) / 4), vI ((x1 - 40) % 4)] [vI (b2 (0 ≤ ((x1 - 40) % 4) ∧ ((x1 - 40) % 4) < (σ 10 j 1)))] σ Q
        refine wp_if_eq (tgt := 136) dX11_toldOfOne_120 (by decide) (fun hc => ?_) (fun hc => ?_)
        · replace h := h.1 (b2_eq hc)
          refine wp_iconst dX11_toldOfOne_136 rfl ?_
          exact wp_iret dX11_toldOfOne_137 rfl h
        · replace h := h.2 (b2_ne hc)
          refine wp_aload_n dX11_toldOfOne_123 rfl rfl ?_
          refine wp_getR dX11_toldOfOne_124 fl_CustomValley_375 rfl rfl ?_
          refine wp_iload_n dX11_toldOfOne_127 rfl rfl ?_
          refine wp_iconst dX11_toldOfOne_128 rfl ?_
          have s3 := h.1
          replace h := h.2
          refine wp_imul dX11_toldOfOne_129 ?_ (h1 := s3.1) (h2 := s3.2)
          refine wp_iload_n dX11_toldOfOne_130 rfl rfl ?_
          have s2 := h.1
          replace h := h.2
          refine wp_iadd dX11_toldOfOne_131 ?_ (h1 := s2.1) (h2 := s2.2)
          have s1 := h.1
          replace h := h.2
          refine wp_iaload dX11_toldOfOne_132 rfl rfl s1.1 s1.2 ?_
          refine wp_goto (tgt := 137) dX11_toldOfOne_133 (by decide) ?_
          exact wp_iret dX11_toldOfOne_137 rfl h
    · replace h := h.2 hc
      refine wp_iconst dX11_toldOfOne_91 rfl ?_
      exact wp_iret dX11_toldOfOne_92 rfl h
  · replace h := h.2 hc
    refine wp_aload_n dX11_toldOfOne_60 rfl rfl ?_
    refine wp_iload_n dX11_toldOfOne_61 rfl rfl ?_
    refine wp_bipush dX11_toldOfOne_62 rfl ?_
    have s10 := h.1
    replace h := h.2
    refine wp_isub dX11_toldOfOne_64 ?_ (h1 := s10.1) (h2 := s10.2)
    refine wp_invV (N := mX9_isPerson) [vI (x1 - 60)] dX11_toldOfOne_65 ml_CustomValley_155 mvX9_isPerson rfl rfl rfl rfl rfl (Nat.le_of_ble_eq_true rfl) (Nat.le_of_ble_eq_true rfl) (by decide) (by decide) (by decide) ?_
    refine pb_X9_isPerson (by trivial) ?_
    show WP mX11_toldOfOne 68 [vR 10 j, vI x1, vU, vU] [vI (b2 (0 ≤ (x1 - 60) ∧ (x1 - 60) < (σ 10 j 0)))] σ Q
    refine wp_if_eq (tgt := 83) dX11_toldOfOne_68 (by decide) (fun hc => ?_) (fun hc => ?_)
    · replace h := h.1 (b2_eq hc)
      refine wp_iconst dX11_toldOfOne_83 rfl ?_
      exact wp_iret dX11_toldOfOne_84 rfl h
    · replace h := h.2 (b2_ne hc)
      refine wp_aload_n dX11_toldOfOne_71 rfl rfl ?_
      refine wp_getR dX11_toldOfOne_72 fl_CustomValley_372 rfl rfl ?_
      refine wp_iload_n dX11_toldOfOne_75 rfl rfl ?_
      refine wp_bipush dX11_toldOfOne_76 rfl ?_
      have s9 := h.1
      replace h := h.2
      refine wp_isub dX11_toldOfOne_78 ?_ (h1 := s9.1) (h2 := s9.2)
      have s8 := h.1
      replace h := h.2
      refine wp_iaload dX11_toldOfOne_79 rfl rfl s8.1 s8.2 ?_
      refine wp_goto (tgt := 84) dX11_toldOfOne_80 (by decide) ?_
      exact wp_iret dX11_toldOfOne_84 rfl h
theorem dX11_habit_0 : decode cX11_habit 0 = .ok (.aload_n 0, 1) := by decide +kernel
theorem dX11_habit_1 : decode cX11_habit 1 = .ok (.getfield 28, 3) := by decide +kernel
theorem dX11_habit_4 : decode cX11_habit 4 = .ok (.getfield 103, 3) := by decide +kernel
theorem dX11_habit_7 : decode cX11_habit 7 = .ok (.astore_n 3, 1) := by decide +kernel
theorem dX11_habit_8 : decode cX11_habit 8 = .ok (.aload_n 3, 1) := by decide +kernel
theorem dX11_habit_9 : decode cX11_habit 9 = .ok (.iload_n 1, 1) := by decide +kernel
theorem dX11_habit_10 : decode cX11_habit 10 = .ok (.invokevirtual 151, 3) := by decide +kernel
theorem dX11_habit_13 : decode cX11_habit 13 = .ok (.ifCond .eq 20, 3) := by decide +kernel
theorem dX11_habit_16 : decode cX11_habit 16 = .ok (.aload_n 3, 1) := by decide +kernel
theorem dX11_habit_17 : decode cX11_habit 17 = .ok (.iload_n 2, 1) := by decide +kernel
theorem dX11_habit_18 : decode cX11_habit 18 = .ok (.invokevirtual 155, 3) := by decide +kernel
theorem dX11_habit_21 : decode cX11_habit 21 = .ok (.ifCond .eq 12, 3) := by decide +kernel
theorem dX11_habit_24 : decode cX11_habit 24 = .ok (.aload_n 3, 1) := by decide +kernel
theorem dX11_habit_25 : decode cX11_habit 25 = .ok (.iload_n 1, 1) := by decide +kernel
theorem dX11_habit_26 : decode cX11_habit 26 = .ok (.iload_n 2, 1) := by decide +kernel
theorem dX11_habit_27 : decode cX11_habit 27 = .ok (.invokevirtual 158, 3) := by decide +kernel
theorem dX11_habit_30 : decode cX11_habit 30 = .ok (.goto 5, 3) := by decide +kernel
theorem dX11_habit_33 : decode cX11_habit 33 = .ok (.bipush (-2), 2) := by decide +kernel
theorem dX11_habit_35 : decode cX11_habit 35 = .ok (.ireturn, 1) := by decide +kernel
theorem b_X11_habit_0 {x1 : Int} {x2 : Int} {σ : St} {Q : Res → St → Prop} (h : WP mX9_isState 0 [vR 10 0, vI x1, vU] [] σ (CT mX11_habit 13 [vU, vI x1, vI x2, vR 10 0] [] Q)) : WP mX11_habit 0 [vR 12 0, vI x1, vI x2, vU] [] σ Q := by
  refine wp_aload_n dX11_habit_0 rfl rfl ?_
  refine wp_getR dX11_habit_1 fl_CustomValley_28 rfl rfl ?_
  refine wp_getR dX11_habit_4 fl_CustomValley_103 rfl rfl ?_
  refine wp_astore_n dX11_habit_7 rfl (by decide) rfl rfl ?_
  refine wp_aload_n dX11_habit_8 rfl rfl ?_
  refine wp_iload_n dX11_habit_9 rfl rfl ?_
  refine wp_invV (N := mX9_isState) [vI x1] dX11_habit_10 ml_CustomValley_151 mvX9_isState rfl rfl rfl rfl rfl (Nat.le_of_ble_eq_true rfl) (Nat.le_of_ble_eq_true rfl) (by decide) (by decide) (by decide) ?_
  exact WP.mono h (ct_drop (lle_c (Or.inr rfl) (lle_c (Or.inl rfl) (lle_c (Or.inl rfl) (lle_c (Or.inl rfl) lle_n)))))
theorem b_X11_habit_13 {x1 : Int} {x2 : Int} {t0 : Int} {σ : St} {Q : Res → St → Prop} (h : ((t0 = 0) → (Q (.inl (some (vI (-2)))) σ)) ∧ ((t0 ≠ 0) → (((¬ (0 ≤ x2 ∧ x2 < (σ 10 0 0))) → (Q (.inl (some (vI (-2)))) σ)) ∧ ((0 ≤ x2 ∧ x2 < (σ 10 0 0)) → ((0 ≤ x2 ∧ x2 < 11 ∧ 0 ≤ x1 ∧ 0 < σ 60 0 x2.toNat ∧ 0 ≤ x1 / (σ 60 0 x2.toNat) ∧ 0 < σ 10 0 1) ∧ (Q (.inl (some (vI ((x1 / (σ 60 0 x2.toNat)) % (σ 10 0 1))))) σ)))))) : WP mX11_habit 13 [vU, vI x1, vI x2, vR 10 0] [vI t0] σ Q := by
  refine wp_if_eq (tgt := 33) dX11_habit_13 (by decide) (fun hc => ?_) (fun hc => ?_)
  · replace h := h.1 hc
    refine wp_bipush dX11_habit_33 rfl ?_
    exact wp_iret dX11_habit_35 rfl h
  · replace h := h.2 hc
    refine wp_aload_n dX11_habit_16 rfl rfl ?_
    refine wp_iload_n dX11_habit_17 rfl rfl ?_
    refine wp_invV (N := mX9_isPerson) [vI x2] dX11_habit_18 ml_CustomValley_155 mvX9_isPerson rfl rfl rfl rfl rfl (Nat.le_of_ble_eq_true rfl) (Nat.le_of_ble_eq_true rfl) (by decide) (by decide) (by decide) ?_
    refine pb_X9_isPerson (by trivial) ?_
    show WP mX11_habit 21 [vU, vI x1, vI x2, vR 10 0] [vI (b2 (0 ≤ x2 ∧ x2 < (σ 10 0 0)))] σ Q
    refine wp_if_eq (tgt := 33) dX11_habit_21 (by decide) (fun hc => ?_) (fun hc => ?_)
    · replace h := h.1 (b2_eq hc)
      refine wp_bipush dX11_habit_33 rfl ?_
      exact wp_iret dX11_habit_35 rfl h
    · replace h := h.2 (b2_ne hc)
      refine wp_aload_n dX11_habit_24 rfl rfl ?_
      refine wp_iload_n dX11_habit_25 rfl rfl ?_
      refine wp_iload_n dX11_habit_26 rfl rfl ?_
      have s1 := h.1
      replace h := h.2
      refine wp_invV (N := mX9_habitIn) [vI x1, vI x2] dX11_habit_27 ml_CustomValley_158 mvX9_habitIn rfl rfl rfl rfl rfl (Nat.le_of_ble_eq_true rfl) (Nat.le_of_ble_eq_true rfl) (by decide) (by decide) (by decide) ?_
      refine pb_X9_habitIn s1 ?_
      show WP mX11_habit 30 [vU, vI x1, vI x2, vR 10 0] [vI ((x1 / (σ 60 0 x2.toNat)) % (σ 10 0 1))] σ Q
      refine wp_goto (tgt := 35) dX11_habit_30 (by decide) ?_
      exact wp_iret dX11_habit_35 rfl h
theorem dX11_move_0 : decode cX11_move 0 = .ok (.aload_n 0, 1) := by decide +kernel
theorem dX11_move_1 : decode cX11_move 1 = .ok (.getfield 28, 3) := by decide +kernel
theorem dX11_move_4 : decode cX11_move 4 = .ok (.getfield 103, 3) := by decide +kernel
theorem dX11_move_7 : decode cX11_move 7 = .ok (.astore 4, 2) := by decide +kernel
theorem dX11_move_9 : decode cX11_move 9 = .ok (.aload 4, 2) := by decide +kernel
theorem dX11_move_11 : decode cX11_move 11 = .ok (.iload_n 1, 1) := by decide +kernel
theorem dX11_move_12 : decode cX11_move 12 = .ok (.invokevirtual 151, 3) := by decide +kernel
theorem dX11_move_15 : decode cX11_move 15 = .ok (.ifCond .eq 21, 3) := by decide +kernel
theorem dX11_move_18 : decode cX11_move 18 = .ok (.aload 4, 2) := by decide +kernel
theorem dX11_move_20 : decode cX11_move 20 = .ok (.iload_n 2, 1) := by decide +kernel
theorem dX11_move_21 : decode cX11_move 21 = .ok (.invokevirtual 155, 3) := by decide +kernel
theorem dX11_move_24 : decode cX11_move 24 = .ok (.ifCond .eq 12, 3) := by decide +kernel
theorem dX11_move_27 : decode cX11_move 27 = .ok (.aload 4, 2) := by decide +kernel
theorem dX11_move_29 : decode cX11_move 29 = .ok (.iload_n 3, 1) := by decide +kernel
theorem dX11_move_30 : decode cX11_move 30 = .ok (.invokevirtual 177, 3) := by decide +kernel
theorem dX11_move_33 : decode cX11_move 33 = .ok (.ifCond .ne 6, 3) := by decide +kernel
theorem dX11_move_36 : decode cX11_move 36 = .ok (.bipush (-2), 2) := by decide +kernel
theorem dX11_move_38 : decode cX11_move 38 = .ok (.ireturn, 1) := by decide +kernel
theorem dX11_move_39 : decode cX11_move 39 = .ok (.aload 4, 2) := by decide +kernel
theorem dX11_move_41 : decode cX11_move 41 = .ok (.iload_n 2, 1) := by decide +kernel
theorem dX11_move_42 : decode cX11_move 42 = .ok (.invokevirtual 180, 3) := by decide +kernel
theorem dX11_move_45 : decode cX11_move 45 = .ok (.ifCond .eq 14, 3) := by decide +kernel
theorem dX11_move_48 : decode cX11_move 48 = .ok (.aload 4, 2) := by decide +kernel
theorem dX11_move_50 : decode cX11_move 50 = .ok (.iload_n 1, 1) := by decide +kernel
theorem dX11_move_51 : decode cX11_move 51 = .ok (.iload_n 2, 1) := by decide +kernel
theorem dX11_move_52 : decode cX11_move 52 = .ok (.iload_n 3, 1) := by decide +kernel
theorem dX11_move_53 : decode cX11_move 53 = .ok (.invokevirtual 183, 3) := by decide +kernel
theorem dX11_move_56 : decode cX11_move 56 = .ok (.goto 4, 3) := by decide +kernel
theorem dX11_move_59 : decode cX11_move 59 = .ok (.iconst (-1), 1) := by decide +kernel
theorem dX11_move_60 : decode cX11_move 60 = .ok (.ireturn, 1) := by decide +kernel
theorem b_X11_move_0 {x1 : Int} {x2 : Int} {x3 : Int} {σ : St} {Q : Res → St → Prop} (h : WP mX9_isState 0 [vR 10 0, vI x1, vU] [] σ (CT mX11_move 15 [vU, vI x1, vI x2, vI x3, vR 10 0] [] Q)) : WP mX11_move 0 [vR 12 0, vI x1, vI x2, vI x3, vU] [] σ Q := by
  refine wp_aload_n dX11_move_0 rfl rfl ?_
  refine wp_getR dX11_move_1 fl_CustomValley_28 rfl rfl ?_
  refine wp_getR dX11_move_4 fl_CustomValley_103 rfl rfl ?_
  refine wp_astore dX11_move_7 (by decide) rfl rfl ?_
  refine wp_aload dX11_move_9 rfl ?_
  refine wp_iload_n dX11_move_11 rfl rfl ?_
  refine wp_invV (N := mX9_isState) [vI x1] dX11_move_12 ml_CustomValley_151 mvX9_isState rfl rfl rfl rfl rfl (Nat.le_of_ble_eq_true rfl) (Nat.le_of_ble_eq_true rfl) (by decide) (by decide) (by decide) ?_
  exact WP.mono h (ct_drop (lle_c (Or.inr rfl) (lle_c (Or.inl rfl) (lle_c (Or.inl rfl) (lle_c (Or.inl rfl) (lle_c (Or.inl rfl) lle_n))))))
theorem b_X11_move_15 {x1 : Int} {x2 : Int} {x3 : Int} {t0 : Int} {σ : St} {Q : Res → St → Prop} (h : ((t0 = 0) → (Q (.inl (some (vI (-2)))) σ)) ∧ ((t0 ≠ 0) → (((¬ (0 ≤ x2 ∧ x2 < (σ 10 0 0))) → (Q (.inl (some (vI (-2)))) σ)) ∧ ((0 ≤ x2 ∧ x2 < (σ 10 0 0)) → (((0 ≤ x3 ∧ x3 < (σ 10 0 1)) → (((¬ (band (shr (σ 10 0 9) x2) 1 ≠ 0)) → (Q (.inl (some (vI (-1)))) σ)) ∧ ((band (shr (σ 10 0 9) x2) 1 ≠ 0) → ((0 ≤ x2 ∧ x2 < 11 ∧ 0 ≤ x1 ∧ 0 < σ 60 0 x2.toNat ∧ 0 ≤ x1 / (σ 60 0 x2.toNat) ∧ 0 < σ 10 0 1 ∧ in32 (x3 - ((x1 / (σ 60 0 x2.toNat)) % (σ 10 0 1))) ∧ 0 ≤ x2 ∧ x2 < 11 ∧ in32 ((x3 - ((x1 / (σ 60 0 x2.toNat)) % (σ 10 0 1))) * (σ 60 0 x2.toNat)) ∧ in32 (x1 + ((x3 - ((x1 / (σ 60 0 x2.toNat)) % (σ 10 0 1))) * (σ 60 0 x2.toNat)))) ∧ (Q (.inl (some (vI (x1 + ((x3 - ((x1 / (σ 60 0 x2.toNat)) % (σ 10 0 1))) * (σ 60 0 x2.toNat)))))) σ))))) ∧ ((¬ (0 ≤ x3 ∧ x3 < (σ 10 0 1))) → (Q (.inl (some (vI (-2)))) σ))))))) : WP mX11_move 15 [vU, vI x1, vI x2, vI x3, vR 10 0] [vI t0] σ Q := by
  refine wp_if_eq (tgt := 36) dX11_move_15 (by decide) (fun hc => ?_) (fun hc => ?_)
  · replace h := h.1 hc
    refine wp_bipush dX11_move_36 rfl ?_
    exact wp_iret dX11_move_38 rfl h
  · replace h := h.2 hc
    refine wp_aload dX11_move_18 rfl ?_
    refine wp_iload_n dX11_move_20 rfl rfl ?_
    refine wp_invV (N := mX9_isPerson) [vI x2] dX11_move_21 ml_CustomValley_155 mvX9_isPerson rfl rfl rfl rfl rfl (Nat.le_of_ble_eq_true rfl) (Nat.le_of_ble_eq_true rfl) (by decide) (by decide) (by decide) ?_
    refine pb_X9_isPerson (by trivial) ?_
    show WP mX11_move 24 [vU, vI x1, vI x2, vI x3, vR 10 0] [vI (b2 (0 ≤ x2 ∧ x2 < (σ 10 0 0)))] σ Q
    refine wp_if_eq (tgt := 36) dX11_move_24 (by decide) (fun hc => ?_) (fun hc => ?_)
    · replace h := h.1 (b2_eq hc)
      refine wp_bipush dX11_move_36 rfl ?_
      exact wp_iret dX11_move_38 rfl h
    · replace h := h.2 (b2_ne hc)
      refine wp_aload dX11_move_27 rfl ?_
      refine wp_iload_n dX11_move_29 rfl rfl ?_
      refine wp_invV (N := mX9_isHabit) [vI x3] dX11_move_30 ml_CustomValley_177 mvX9_isHabit rfl rfl rfl rfl rfl (Nat.le_of_ble_eq_true rfl) (Nat.le_of_ble_eq_true rfl) (by decide) (by decide) (by decide) ?_
      refine pb_X9_isHabit (by trivial) ?_
      show WP mX11_move 33 [vU, vI x1, vI x2, vI x3, vR 10 0] [vI (b2 (0 ≤ x3 ∧ x3 < (σ 10 0 1)))] σ Q
      refine wp_if_ne (tgt := 39) dX11_move_33 (by decide) (fun hc => ?_) (fun hc => ?_)
      · replace h := h.1 (b2_ne hc)
        refine wp_aload dX11_move_39 rfl ?_
        refine wp_iload_n dX11_move_41 rfl rfl ?_
        refine wp_invV (N := mX9_isFree) [vI x2] dX11_move_42 ml_CustomValley_180 mvX9_isFree rfl rfl rfl rfl rfl (Nat.le_of_ble_eq_true rfl) (Nat.le_of_ble_eq_true rfl) (by decide) (by decide) (by decide) ?_
        refine pb_X9_isFree (by trivial) ?_
        show WP mX11_move 45 [vU, vI x1, vI x2, vI x3, vR 10 0] [vI (b2 (band (shr (σ 10 0 9) x2) 1 ≠ 0))] σ Q
        refine wp_if_eq (tgt := 59) dX11_move_45 (by decide) (fun hc => ?_) (fun hc => ?_)
        · replace h := h.1 (b2_eq hc)
          refine wp_iconst dX11_move_59 rfl ?_
          exact wp_iret dX11_move_60 rfl h
        · replace h := h.2 (b2_ne hc)
          refine wp_aload dX11_move_48 rfl ?_
          refine wp_iload_n dX11_move_50 rfl rfl ?_
          refine wp_iload_n dX11_move_51 rfl rfl ?_
          refine wp_iload_n dX11_move_52 rfl rfl ?_
          have s1 := h.1
          replace h := h.2
          refine wp_invV (N := mX9_with) [vI x1, vI x2, vI x3] dX11_move_53 ml_CustomValley_183 mvX9_with rfl rfl rfl rfl rfl (Nat.le_of_ble_eq_true rfl) (Nat.le_of_ble_eq_true rfl) (by decide) (by decide) (by decide) ?_
          refine pb_X9_with s1 ?_
          show WP mX11_move 56 [vU, vI x1, vI x2, vI x3, vR 10 0] [vI (x1 + ((x3 - ((x1 / (σ 60 0 x2.toNat)) % (σ 10 0 1))) * (σ 60 0 x2.toNat)))] σ Q
          refine wp_goto (tgt := 60) dX11_move_56 (by decide) ?_
          exact wp_iret dX11_move_60 rfl h
      · replace h := h.2 (b2_eq hc)
        refine wp_bipush dX11_move_36 rfl ?_
        exact wp_iret dX11_move_38 rfl h
theorem dX11_parts_0 : decode cX11_parts 0 = .ok (.aload_n 0, 1) := by decide +kernel
theorem dX11_parts_1 : decode cX11_parts 1 = .ok (.getfield 55, 3) := by decide +kernel
theorem dX11_parts_4 : decode cX11_parts 4 = .ok (.getfield 303, 3) := by decide +kernel
theorem dX11_parts_7 : decode cX11_parts 7 = .ok (.ifCond .eq 29, 3) := by decide +kernel
theorem dX11_parts_10 : decode cX11_parts 10 = .ok (.aload_n 0, 1) := by decide +kernel
theorem dX11_parts_11 : decode cX11_parts 11 = .ok (.getfield 28, 3) := by decide +kernel
theorem dX11_parts_14 : decode cX11_parts 14 = .ok (.getfield 103, 3) := by decide +kernel
theorem dX11_parts_17 : decode cX11_parts 17 = .ok (.iload_n 1, 1) := by decide +kernel
theorem dX11_parts_18 : decode cX11_parts 18 = .ok (.invokevirtual 151, 3) := by decide +kernel
theorem dX11_parts_21 : decode cX11_parts 21 = .ok (.ifCond .eq 15, 3) := by decide +kernel
theorem dX11_parts_24 : decode cX11_parts 24 = .ok (.aload_n 0, 1) := by decide +kernel
theorem dX11_parts_25 : decode cX11_parts 25 = .ok (.getfield 55, 3) := by decide +kernel
theorem dX11_parts_28 : decode cX11_parts 28 = .ok (.getfield 306, 3) := by decide +kernel
theorem dX11_parts_31 : decode cX11_parts 31 = .ok (.iload_n 1, 1) := by decide +kernel
theorem dX11_parts_32 : decode cX11_parts 32 = .ok (.iaload, 1) := by decide +kernel
theorem dX11_parts_33 : decode cX11_parts 33 = .ok (.goto 4, 3) := by decide +kernel
theorem dX11_parts_36 : decode cX11_parts 36 = .ok (.iconst (-1), 1) := by decide +kernel
theorem dX11_parts_37 : decode cX11_parts 37 = .ok (.ireturn, 1) := by decide +kernel
theorem b_X11_parts_0 {x1 : Int} {σ : St} {Q : Res → St → Prop} (h : (((σ 1 0 0) = 0) → (Q (.inl (some (vI (-1)))) σ)) ∧ (((σ 1 0 0) ≠ 0) → (WP mX9_isState 0 [vR 10 0, vI x1, vU] [] σ (CT mX11_parts 21 [vR 12 0, vI x1] [] Q)))) : WP mX11_parts 0 [vR 12 0, vI x1] [] σ Q := by
  refine wp_aload_n dX11_parts_0 rfl rfl ?_
  refine wp_getR dX11_parts_1 fl_CustomValley_55 rfl rfl ?_
  refine wp_getI dX11_parts_4 fl_CustomValley_303 rfl rfl rfl ?_
  refine wp_if_eq (tgt := 36) dX11_parts_7 (by decide) (fun hc => ?_) (fun hc => ?_)
  · replace h := h.1 hc
    refine wp_iconst dX11_parts_36 rfl ?_
    exact wp_iret dX11_parts_37 rfl h
  · replace h := h.2 hc
    refine wp_aload_n dX11_parts_10 rfl rfl ?_
    refine wp_getR dX11_parts_11 fl_CustomValley_28 rfl rfl ?_
    refine wp_getR dX11_parts_14 fl_CustomValley_103 rfl rfl ?_
    refine wp_iload_n dX11_parts_17 rfl rfl ?_
    refine wp_invV (N := mX9_isState) [vI x1] dX11_parts_18 ml_CustomValley_151 mvX9_isState rfl rfl rfl rfl rfl (Nat.le_of_ble_eq_true rfl) (Nat.le_of_ble_eq_true rfl) (by decide) (by decide) (by decide) ?_
    exact h
theorem b_X11_parts_21 {x1 : Int} {t0 : Int} {σ : St} {Q : Res → St → Prop} (h : ((t0 = 0) → (Q (.inl (some (vI (-1)))) σ)) ∧ ((t0 ≠ 0) → ((0 ≤ x1 ∧ x1 < 1024) ∧ (Q (.inl (some (vI (σ 20 0 x1.toNat)))) σ)))) : WP mX11_parts 21 [vR 12 0, vI x1] [vI t0] σ Q := by
  refine wp_if_eq (tgt := 36) dX11_parts_21 (by decide) (fun hc => ?_) (fun hc => ?_)
  · replace h := h.1 hc
    refine wp_iconst dX11_parts_36 rfl ?_
    exact wp_iret dX11_parts_37 rfl h
  · replace h := h.2 hc
    refine wp_aload_n dX11_parts_24 rfl rfl ?_
    refine wp_getR dX11_parts_25 fl_CustomValley_55 rfl rfl ?_
    refine wp_getR dX11_parts_28 fl_CustomValley_306 rfl rfl ?_
    refine wp_iload_n dX11_parts_31 rfl rfl ?_
    have s1 := h.1
    replace h := h.2
    refine wp_iaload dX11_parts_32 rfl rfl s1.1 s1.2 ?_
    refine wp_goto (tgt := 37) dX11_parts_33 (by decide) ?_
    exact wp_iret dX11_parts_37 rfl h
theorem dX11_right_0 : decode cX11_right 0 = .ok (.aload_n 0, 1) := by decide +kernel
theorem dX11_right_1 : decode cX11_right 1 = .ok (.getfield 72, 3) := by decide +kernel
theorem dX11_right_4 : decode cX11_right 4 = .ok (.iload_n 1, 1) := by decide +kernel
theorem dX11_right_5 : decode cX11_right 5 = .ok (.invokevirtual 338, 3) := by decide +kernel
theorem dX11_right_8 : decode cX11_right 8 = .ok (.ifCond .eq 28, 3) := by decide +kernel
theorem dX11_right_11 : decode cX11_right 11 = .ok (.aload_n 0, 1) := by decide +kernel
theorem dX11_right_12 : decode cX11_right 12 = .ok (.getfield 72, 3) := by decide +kernel
theorem dX11_right_15 : decode cX11_right 15 = .ok (.iload_n 2, 1) := by decide +kernel
theorem dX11_right_16 : decode cX11_right 16 = .ok (.invokevirtual 347, 3) := by decide +kernel
theorem dX11_right_19 : decode cX11_right 19 = .ok (.ifCond .eq 17, 3) := by decide +kernel
theorem dX11_right_22 : decode cX11_right 22 = .ok (.aload_n 0, 1) := by decide +kernel
theorem dX11_right_23 : decode cX11_right 23 = .ok (.getfield 28, 3) := by decide +kernel
theorem dX11_right_26 : decode cX11_right 26 = .ok (.getfield 103, 3) := by decide +kernel
theorem dX11_right_29 : decode cX11_right 29 = .ok (.iload_n 3, 1) := by decide +kernel
theorem dX11_right_30 : decode cX11_right 30 = .ok (.invokevirtual 151, 3) := by decide +kernel
theorem dX11_right_33 : decode cX11_right 33 = .ok (.ifCond .ne 6, 3) := by decide +kernel
theorem dX11_right_36 : decode cX11_right 36 = .ok (.bipush (-2), 2) := by decide +kernel
theorem dX11_right_38 : decode cX11_right 38 = .ok (.ireturn, 1) := by decide +kernel
theorem dX11_right_39 : decode cX11_right 39 = .ok (.aload_n 0, 1) := by decide +kernel
theorem dX11_right_40 : decode cX11_right 40 = .ok (.getfield 72, 3) := by decide +kernel
theorem dX11_right_43 : decode cX11_right 43 = .ok (.getfield 348, 3) := by decide +kernel
theorem dX11_right_46 : decode cX11_right 46 = .ok (.bipush 20, 2) := by decide +kernel
theorem dX11_right_48 : decode cX11_right 48 = .ok (.if_icmp .ge 16, 3) := by decide +kernel
theorem dX11_right_51 : decode cX11_right 51 = .ok (.aload_n 0, 1) := by decide +kernel
theorem dX11_right_52 : decode cX11_right 52 = .ok (.getfield 72, 3) := by decide +kernel
theorem dX11_right_55 : decode cX11_right 55 = .ok (.iload_n 1, 1) := by decide +kernel
theorem dX11_right_56 : decode cX11_right 56 = .ok (.iload_n 2, 1) := by decide +kernel
theorem dX11_right_57 : decode cX11_right 57 = .ok (.iload_n 3, 1) := by decide +kernel
theorem dX11_right_58 : decode cX11_right 58 = .ok (.invokevirtual 351, 3) := by decide +kernel
theorem dX11_right_61 : decode cX11_right 61 = .ok (.goto 5, 3) := by decide +kernel
theorem dX11_right_64 : decode cX11_right 64 = .ok (.bipush (-3), 2) := by decide +kernel
theorem dX11_right_66 : decode cX11_right 66 = .ok (.ireturn, 1) := by decide +kernel
theorem b_X11_right_0 {x1 : Int} {x2 : Int} {x3 : Int} {σ : St} {Q : Res → St → Prop} (h : ((¬ ((σ 7 0 2) ≤ x1 ∧ x1 ≤ 999)) → (Q (.inl (some (vI (-2)))) σ)) ∧ (((σ 7 0 2) ≤ x1 ∧ x1 ≤ 999) → (((¬ (0 ≤ x2 ∧ x2 < (σ 7 0 0))) → (Q (.inl (some (vI (-2)))) σ)) ∧ ((0 ≤ x2 ∧ x2 < (σ 7 0 0)) → (WP mX9_isState 0 [vR 10 0, vI x3, vU] [] σ (CT mX11_right 33 [vR 12 0, vI x1, vI x2, vI x3] [] Q)))))) : WP mX11_right 0 [vR 12 0, vI x1, vI x2, vI x3] [] σ Q := by
  refine wp_aload_n dX11_right_0 rfl rfl ?_
  refine wp_getR dX11_right_1 fl_CustomValley_72 rfl rfl ?_
  refine wp_iload_n dX11_right_4 rfl rfl ?_
  refine wp_invV (N := mX6_mayTell) [vI x1] dX11_right_5 ml_CustomValley_338 mvX6_mayTell rfl rfl rfl rfl rfl (Nat.le_of_ble_eq_true rfl) (Nat.le_of_ble_eq_true rfl) (by decide) (by decide) (by decide) ?_
  refine pb_X6_mayTell (by trivial) ?_
  show WP mX11_right 8 [vR 12 0, vI x1, vI x2, vI x3] [vI (b2 ((σ 7 0 2) ≤ x1 ∧ x1 ≤ 999))] σ Q
  refine wp_if_eq (tgt := 36) dX11_right_8 (by decide) (fun hc => ?_) (fun hc => ?_)
  · replace h := h.1 (b2_eq hc)
    refine wp_bipush dX11_right_36 rfl ?_
    exact wp_iret dX11_right_38 rfl h
  · replace h := h.2 (b2_ne hc)
    refine wp_aload_n dX11_right_11 rfl rfl ?_
    refine wp_getR dX11_right_12 fl_CustomValley_72 rfl rfl ?_
    refine wp_iload_n dX11_right_15 rfl rfl ?_
    refine wp_invV (N := mX6_has) [vI x2] dX11_right_16 ml_CustomValley_347 mvX6_has rfl rfl rfl rfl rfl (Nat.le_of_ble_eq_true rfl) (Nat.le_of_ble_eq_true rfl) (by decide) (by decide) (by decide) ?_
    refine pb_X6_has (by trivial) ?_
    show WP mX11_right 19 [vR 12 0, vI x1, vI x2, vI x3] [vI (b2 (0 ≤ x2 ∧ x2 < (σ 7 0 0)))] σ Q
    refine wp_if_eq (tgt := 36) dX11_right_19 (by decide) (fun hc => ?_) (fun hc => ?_)
    · replace h := h.1 (b2_eq hc)
      refine wp_bipush dX11_right_36 rfl ?_
      exact wp_iret dX11_right_38 rfl h
    · replace h := h.2 (b2_ne hc)
      refine wp_aload_n dX11_right_22 rfl rfl ?_
      refine wp_getR dX11_right_23 fl_CustomValley_28 rfl rfl ?_
      refine wp_getR dX11_right_26 fl_CustomValley_103 rfl rfl ?_
      refine wp_iload_n dX11_right_29 rfl rfl ?_
      refine wp_invV (N := mX9_isState) [vI x3] dX11_right_30 ml_CustomValley_151 mvX9_isState rfl rfl rfl rfl rfl (Nat.le_of_ble_eq_true rfl) (Nat.le_of_ble_eq_true rfl) (by decide) (by decide) (by decide) ?_
      exact h
theorem b_X11_right_33 {x1 : Int} {x2 : Int} {x3 : Int} {t0 : Int} {σ : St} {Q : Res → St → Prop} (h : ((t0 ≠ 0) → (((20 ≤ (σ 7 0 1)) → (Q (.inl (some (vI (-3)))) σ)) ∧ (((σ 7 0 1) < 20) → (WP mX6_change 0 [vR 7 0, vI x1, vI x2, vI x3, vU, vU] [] σ (CT mX11_right 61 [vU, vU, vU, vU] [] Q))))) ∧ ((t0 = 0) → (Q (.inl (some (vI (-2)))) σ))) : WP mX11_right 33 [vR 12 0, vI x1, vI x2, vI x3] [vI t0] σ Q := by
  refine wp_if_ne (tgt := 39) dX11_right_33 (by decide) (fun hc => ?_) (fun hc => ?_)
  · replace h := h.1 hc
    refine wp_aload_n dX11_right_39 rfl rfl ?_
    refine wp_getR dX11_right_40 fl_CustomValley_72 rfl rfl ?_
    refine wp_getI dX11_right_43 fl_CustomValley_348 rfl rfl rfl ?_
    refine wp_bipush dX11_right_46 rfl ?_
    refine wp_icmp_ge (tgt := 64) dX11_right_48 (by decide) (fun hc => ?_) (fun hc => ?_)
    · replace h := h.1 hc
      refine wp_bipush dX11_right_64 rfl ?_
      exact wp_iret dX11_right_66 rfl h
    · replace h := h.2 hc
      refine wp_aload_n dX11_right_51 rfl rfl ?_
      refine wp_getR dX11_right_52 fl_CustomValley_72 rfl rfl ?_
      refine wp_iload_n dX11_right_55 rfl rfl ?_
      refine wp_iload_n dX11_right_56 rfl rfl ?_
      refine wp_iload_n dX11_right_57 rfl rfl ?_
      refine wp_invV (N := mX6_change) [vI x1, vI x2, vI x3] dX11_right_58 ml_CustomValley_351 mvX6_change rfl rfl rfl rfl rfl (Nat.le_of_ble_eq_true rfl) (Nat.le_of_ble_eq_true rfl) (by decide) (by decide) (by decide) ?_
      exact WP.mono h (ct_drop (lle_c (Or.inr rfl) (lle_c (Or.inr rfl) (lle_c (Or.inr rfl) (lle_c (Or.inr rfl) lle_n)))))
  · replace h := h.2 hc
    refine wp_bipush dX11_right_36 rfl ?_
    exact wp_iret dX11_right_38 rfl h
theorem b_X11_right_61 {t0 : Int} {σ : St} {Q : Res → St → Prop} (h : Q (.inl (some (vI t0))) σ) : WP mX11_right 61 [vU, vU, vU, vU] [vI t0] σ Q := by
  refine wp_goto (tgt := 66) dX11_right_61 (by decide) ?_
  exact wp_iret dX11_right_66 rfl h
theorem dX11_see_0 : decode cX11_see 0 = .ok (.aload_n 0, 1) := by decide +kernel
theorem dX11_see_1 : decode cX11_see 1 = .ok (.getfield 72, 3) := by decide +kernel
theorem dX11_see_4 : decode cX11_see 4 = .ok (.iload_n 1, 1) := by decide +kernel
theorem dX11_see_5 : decode cX11_see 5 = .ok (.invokevirtual 338, 3) := by decide +kernel
theorem dX11_see_8 : decode cX11_see 8 = .ok (.ifCond .eq 28, 3) := by decide +kernel
theorem dX11_see_11 : decode cX11_see 11 = .ok (.aload_n 0, 1) := by decide +kernel
theorem dX11_see_12 : decode cX11_see 12 = .ok (.getfield 72, 3) := by decide +kernel
theorem dX11_see_15 : decode cX11_see 15 = .ok (.iload_n 2, 1) := by decide +kernel
theorem dX11_see_16 : decode cX11_see 16 = .ok (.invokevirtual 341, 3) := by decide +kernel
theorem dX11_see_19 : decode cX11_see 19 = .ok (.ifCond .eq 17, 3) := by decide +kernel
theorem dX11_see_22 : decode cX11_see 22 = .ok (.aload_n 0, 1) := by decide +kernel
theorem dX11_see_23 : decode cX11_see 23 = .ok (.getfield 28, 3) := by decide +kernel
theorem dX11_see_26 : decode cX11_see 26 = .ok (.getfield 103, 3) := by decide +kernel
theorem dX11_see_29 : decode cX11_see 29 = .ok (.iload_n 3, 1) := by decide +kernel
theorem dX11_see_30 : decode cX11_see 30 = .ok (.invokevirtual 151, 3) := by decide +kernel
theorem dX11_see_33 : decode cX11_see 33 = .ok (.ifCond .ne 6, 3) := by decide +kernel
theorem dX11_see_36 : decode cX11_see 36 = .ok (.bipush (-2), 2) := by decide +kernel
theorem dX11_see_38 : decode cX11_see 38 = .ok (.ireturn, 1) := by decide +kernel
theorem dX11_see_39 : decode cX11_see 39 = .ok (.aload_n 0, 1) := by decide +kernel
theorem dX11_see_40 : decode cX11_see 40 = .ok (.getfield 72, 3) := by decide +kernel
theorem dX11_see_43 : decode cX11_see 43 = .ok (.getfield 344, 3) := by decide +kernel
theorem dX11_see_46 : decode cX11_see 46 = .ok (.bipush 20, 2) := by decide +kernel
theorem dX11_see_48 : decode cX11_see 48 = .ok (.if_icmp .ge 16, 3) := by decide +kernel
theorem dX11_see_51 : decode cX11_see 51 = .ok (.aload_n 0, 1) := by decide +kernel
theorem dX11_see_52 : decode cX11_see 52 = .ok (.getfield 72, 3) := by decide +kernel
theorem dX11_see_55 : decode cX11_see 55 = .ok (.iload_n 1, 1) := by decide +kernel
theorem dX11_see_56 : decode cX11_see 56 = .ok (.iload_n 2, 1) := by decide +kernel
theorem dX11_see_57 : decode cX11_see 57 = .ok (.iload_n 3, 1) := by decide +kernel
theorem dX11_see_58 : decode cX11_see 58 = .ok (.invokevirtual 345, 3) := by decide +kernel
theorem dX11_see_61 : decode cX11_see 61 = .ok (.goto 5, 3) := by decide +kernel
theorem dX11_see_64 : decode cX11_see 64 = .ok (.bipush (-3), 2) := by decide +kernel
theorem dX11_see_66 : decode cX11_see 66 = .ok (.ireturn, 1) := by decide +kernel
theorem b_X11_see_0 {x1 : Int} {x2 : Int} {x3 : Int} {σ : St} {Q : Res → St → Prop} (h : ((¬ ((σ 7 0 2) ≤ x1 ∧ x1 ≤ 999)) → (Q (.inl (some (vI (-2)))) σ)) ∧ (((σ 7 0 2) ≤ x1 ∧ x1 ≤ 999) → ((0 ≤ (σ 7 0 0) ∧ (σ 7 0 0) ≤ 20) ∧ (((¬ (0 ≤ x2 ∧ x2 ≤ 999 ∧ ((σ 7 0 0) = 0 ∨ (σ 40 0 ((σ 7 0 0 - 1).toNat)) < x2))) → (Q (.inl (some (vI (-2)))) σ)) ∧ ((0 ≤ x2 ∧ x2 ≤ 999 ∧ ((σ 7 0 0) = 0 ∨ (σ 40 0 ((σ 7 0 0 - 1).toNat)) < x2)) → (WP mX9_isState 0 [vR 10 0, vI x3, vU] [] σ (CT mX11_see 33 [vR 12 0, vI x1, vI x2, vI x3] [] Q))))))) : WP mX11_see 0 [vR 12 0, vI x1, vI x2, vI x3] [] σ Q := by
  refine wp_aload_n dX11_see_0 rfl rfl ?_
  refine wp_getR dX11_see_1 fl_CustomValley_72 rfl rfl ?_
  refine wp_iload_n dX11_see_4 rfl rfl ?_
  refine wp_invV (N := mX6_mayTell) [vI x1] dX11_see_5 ml_CustomValley_338 mvX6_mayTell rfl rfl rfl rfl rfl (Nat.le_of_ble_eq_true rfl) (Nat.le_of_ble_eq_true rfl) (by decide) (by decide) (by decide) ?_
  refine pb_X6_mayTell (by trivial) ?_
  show WP mX11_see 8 [vR 12 0, vI x1, vI x2, vI x3] [vI (b2 ((σ 7 0 2) ≤ x1 ∧ x1 ≤ 999))] σ Q
  refine wp_if_eq (tgt := 36) dX11_see_8 (by decide) (fun hc => ?_) (fun hc => ?_)
  · replace h := h.1 (b2_eq hc)
    refine wp_bipush dX11_see_36 rfl ?_
    exact wp_iret dX11_see_38 rfl h
  · replace h := h.2 (b2_ne hc)
    refine wp_aload_n dX11_see_11 rfl rfl ?_
    refine wp_getR dX11_see_12 fl_CustomValley_72 rfl rfl ?_
    refine wp_iload_n dX11_see_15 rfl rfl ?_
    have s1 := h.1
    replace h := h.2
    refine wp_invV (N := mX6_mayDawn) [vI x2] dX11_see_16 ml_CustomValley_341 mvX6_mayDawn rfl rfl rfl rfl rfl (Nat.le_of_ble_eq_true rfl) (Nat.le_of_ble_eq_true rfl) (by decide) (by decide) (by decide) ?_
    refine pb_X6_mayDawn s1 ?_
    show WP mX11_see 19 [vR 12 0, vI x1, vI x2, vI x3] [vI (b2 (0 ≤ x2 ∧ x2 ≤ 999 ∧ ((σ 7 0 0) = 0 ∨ (σ 40 0 ((σ 7 0 0 - 1).toNat)) < x2)))] σ Q
    refine wp_if_eq (tgt := 36) dX11_see_19 (by decide) (fun hc => ?_) (fun hc => ?_)
    · replace h := h.1 (b2_eq hc)
      refine wp_bipush dX11_see_36 rfl ?_
      exact wp_iret dX11_see_38 rfl h
    · replace h := h.2 (b2_ne hc)
      refine wp_aload_n dX11_see_22 rfl rfl ?_
      refine wp_getR dX11_see_23 fl_CustomValley_28 rfl rfl ?_
      refine wp_getR dX11_see_26 fl_CustomValley_103 rfl rfl ?_
      refine wp_iload_n dX11_see_29 rfl rfl ?_
      refine wp_invV (N := mX9_isState) [vI x3] dX11_see_30 ml_CustomValley_151 mvX9_isState rfl rfl rfl rfl rfl (Nat.le_of_ble_eq_true rfl) (Nat.le_of_ble_eq_true rfl) (by decide) (by decide) (by decide) ?_
      exact h
theorem b_X11_see_33 {x1 : Int} {x2 : Int} {x3 : Int} {t0 : Int} {σ : St} {Q : Res → St → Prop} (h : ((t0 ≠ 0) → (((20 ≤ (σ 7 0 0)) → (Q (.inl (some (vI (-3)))) σ)) ∧ (((σ 7 0 0) < 20) → (WP mX6_add 0 [vR 7 0, vI x1, vI x2, vI x3] [] σ (CT mX11_see 61 [vU, vU, vU, vU] [] Q))))) ∧ ((t0 = 0) → (Q (.inl (some (vI (-2)))) σ))) : WP mX11_see 33 [vR 12 0, vI x1, vI x2, vI x3] [vI t0] σ Q := by
  refine wp_if_ne (tgt := 39) dX11_see_33 (by decide) (fun hc => ?_) (fun hc => ?_)
  · replace h := h.1 hc
    refine wp_aload_n dX11_see_39 rfl rfl ?_
    refine wp_getR dX11_see_40 fl_CustomValley_72 rfl rfl ?_
    refine wp_getI dX11_see_43 fl_CustomValley_344 rfl rfl rfl ?_
    refine wp_bipush dX11_see_46 rfl ?_
    refine wp_icmp_ge (tgt := 64) dX11_see_48 (by decide) (fun hc => ?_) (fun hc => ?_)
    · replace h := h.1 hc
      refine wp_bipush dX11_see_64 rfl ?_
      exact wp_iret dX11_see_66 rfl h
    · replace h := h.2 hc
      refine wp_aload_n dX11_see_51 rfl rfl ?_
      refine wp_getR dX11_see_52 fl_CustomValley_72 rfl rfl ?_
      refine wp_iload_n dX11_see_55 rfl rfl ?_
      refine wp_iload_n dX11_see_56 rfl rfl ?_
      refine wp_iload_n dX11_see_57 rfl rfl ?_
      refine wp_invV (N := mX6_add) [vI x1, vI x2, vI x3] dX11_see_58 ml_CustomValley_345 mvX6_add rfl rfl rfl rfl rfl (Nat.le_of_ble_eq_true rfl) (Nat.le_of_ble_eq_true rfl) (by decide) (by decide) (by decide) ?_
      exact WP.mono h (ct_drop (lle_c (Or.inr rfl) (lle_c (Or.inr rfl) (lle_c (Or.inr rfl) (lle_c (Or.inr rfl) lle_n)))))
  · replace h := h.2 hc
    refine wp_bipush dX11_see_36 rfl ?_
    exact wp_iret dX11_see_38 rfl h
theorem b_X11_see_61 {t0 : Int} {σ : St} {Q : Res → St → Prop} (h : Q (.inl (some (vI t0))) σ) : WP mX11_see 61 [vU, vU, vU, vU] [vI t0] σ Q := by
  refine wp_goto (tgt := 66) dX11_see_61 (by decide) ?_
  exact wp_iret dX11_see_66 rfl h
theorem dX11_told_0 : decode cX11_told 0 = .ok (.aload_n 0, 1) := by decide +kernel
theorem dX11_told_1 : decode cX11_told 1 = .ok (.getfield 28, 3) := by decide +kernel
theorem dX11_told_4 : decode cX11_told 4 = .ok (.getfield 103, 3) := by decide +kernel
theorem dX11_told_7 : decode cX11_told 7 = .ok (.astore_n 2, 1) := by decide +kernel
theorem dX11_told_8 : decode cX11_told 8 = .ok (.iload_n 1, 1) := by decide +kernel
theorem dX11_told_9 : decode cX11_told 9 = .ok (.tableswitch 77 0 5 #[39, 44, 49, 54, 59, 72], 39) := by decide +kernel
theorem dX11_told_48 : decode cX11_told 48 = .ok (.aload_n 2, 1) := by decide +kernel
theorem dX11_told_49 : decode cX11_told 49 = .ok (.getfield 128, 3) := by decide +kernel
theorem dX11_told_52 : decode cX11_told 52 = .ok (.ireturn, 1) := by decide +kernel
theorem dX11_told_53 : decode cX11_told 53 = .ok (.aload_n 2, 1) := by decide +kernel
theorem dX11_told_54 : decode cX11_told 54 = .ok (.getfield 131, 3) := by decide +kernel
theorem dX11_told_57 : decode cX11_told 57 = .ok (.ireturn, 1) := by decide +kernel
theorem dX11_told_58 : decode cX11_told 58 = .ok (.aload_n 2, 1) := by decide +kernel
theorem dX11_told_59 : decode cX11_told 59 = .ok (.getfield 134, 3) := by decide +kernel
theorem dX11_told_62 : decode cX11_told 62 = .ok (.ireturn, 1) := by decide +kernel
theorem dX11_told_63 : decode cX11_told 63 = .ok (.aload_n 2, 1) := by decide +kernel
theorem dX11_told_64 : decode cX11_told 64 = .ok (.getfield 137, 3) := by decide +kernel
theorem dX11_told_67 : decode cX11_told 67 = .ok (.ireturn, 1) := by decide +kernel
theorem dX11_told_68 : decode cX11_told 68 = .ok (.aload_n 2, 1) := by decide +kernel
theorem dX11_told_69 : decode cX11_told 69 = .ok (.getfield 140, 3) := by decide +kernel
theorem dX11_told_72 : decode cX11_told 72 = .ok (.ifCond .eq 7, 3) := by decide +kernel
theorem dX11_told_75 : decode cX11_told 75 = .ok (.iconst 1, 1) := by decide +kernel
theorem dX11_told_76 : decode cX11_told 76 = .ok (.goto 4, 3) := by decide +kernel
theorem dX11_told_79 : decode cX11_told 79 = .ok (.iconst 0, 1) := by decide +kernel
theorem dX11_told_80 : decode cX11_told 80 = .ok (.ireturn, 1) := by decide +kernel
theorem dX11_told_81 : decode cX11_told 81 = .ok (.aload_n 2, 1) := by decide +kernel
theorem dX11_told_82 : decode cX11_told 82 = .ok (.getfield 144, 3) := by decide +kernel
theorem dX11_told_85 : decode cX11_told 85 = .ok (.ireturn, 1) := by decide +kernel
theorem dX11_told_86 : decode cX11_told 86 = .ok (.aload_n 2, 1) := by decide +kernel
theorem dX11_told_87 : decode cX11_told 87 = .ok (.iload_n 1, 1) := by decide +kernel
theorem dX11_told_88 : decode cX11_told 88 = .ok (.invokestatic 147, 3) := by decide +kernel
theorem dX11_told_91 : decode cX11_told 91 = .ok (.ireturn, 1) := by decide +kernel
theorem b_X11_told_0 {x1 : Int} {σ : St} {Q : Res → St → Prop} (h : (x1 = 0 → (Q (.inl (some (vI (σ 10 0 0)))) σ)) ∧ (x1 = 1 → (Q (.inl (some (vI (σ 10 0 1)))) σ)) ∧ (x1 = 2 → (Q (.inl (some (vI (σ 10 0 9)))) σ)) ∧ (x1 = 3 → (Q (.inl (some (vI (σ 10 0 2)))) σ)) ∧ (x1 = 4 → ((((σ 10 0 3) = 0) → (Q (.inl (some (vI 0))) σ)) ∧ (((σ 10 0 3) ≠ 0) → (Q (.inl (some (vI 1))) σ)))) ∧ (x1 = 5 → (Q (.inl (some (vI (σ 10 0 12)))) σ)) ∧ ((x1 < 0 ∨ 5 < x1) → (WP mX11_toldOfOne 0 [vR 10 0, vI x1, vU, vU] [] σ (CT mX11_told 91 [vU, vU, vU] [] Q)))) : WP mX11_told 0 [vR 12 0, vI x1, vU] [] σ Q := by
  refine wp_aload_n dX11_told_0 rfl rfl ?_
  refine wp_getR dX11_told_1 fl_CustomValley_28 rfl rfl ?_
  refine wp_getR dX11_told_4 fl_CustomValley_103 rfl rfl ?_
  refine wp_astore_n dX11_told_7 rfl (by decide) rfl rfl ?_
  refine wp_iload_n dX11_told_8 rfl rfl ?_
  by_cases q0 : x1 = 0
  · refine wp_tsIn (tgt := 48) dX11_told_9 (by omega) (by omega) (by rw [q0]; rfl) (by decide) ?_
    replace h := h.1 q0
    refine wp_aload_n dX11_told_48 rfl rfl ?_
    refine wp_getI dX11_told_49 fl_CustomValley_128 rfl rfl rfl ?_
    exact wp_iret dX11_told_52 rfl h
  · replace h := h.2
    by_cases q1 : x1 = 1
    · refine wp_tsIn (tgt := 53) dX11_told_9 (by omega) (by omega) (by rw [q1]; rfl) (by decide) ?_
      replace h := h.1 q1
      refine wp_aload_n dX11_told_53 rfl rfl ?_
      refine wp_getI dX11_told_54 fl_CustomValley_131 rfl rfl rfl ?_
      exact wp_iret dX11_told_57 rfl h
    · replace h := h.2
      by_cases q2 : x1 = 2
      · refine wp_tsIn (tgt := 58) dX11_told_9 (by omega) (by omega) (by rw [q2]; rfl) (by decide) ?_
        replace h := h.1 q2
        refine wp_aload_n dX11_told_58 rfl rfl ?_
        refine wp_getI dX11_told_59 fl_CustomValley_134 rfl rfl rfl ?_
        exact wp_iret dX11_told_62 rfl h
      · replace h := h.2
        by_cases q3 : x1 = 3
        · refine wp_tsIn (tgt := 63) dX11_told_9 (by omega) (by omega) (by rw [q3]; rfl) (by decide) ?_
          replace h := h.1 q3
          refine wp_aload_n dX11_told_63 rfl rfl ?_
          refine wp_getI dX11_told_64 fl_CustomValley_137 rfl rfl rfl ?_
          exact wp_iret dX11_told_67 rfl h
        · replace h := h.2
          by_cases q4 : x1 = 4
          · refine wp_tsIn (tgt := 68) dX11_told_9 (by omega) (by omega) (by rw [q4]; rfl) (by decide) ?_
            replace h := h.1 q4
            refine wp_aload_n dX11_told_68 rfl rfl ?_
            refine wp_getI dX11_told_69 fl_CustomValley_140 rfl rfl rfl ?_
            refine wp_if_eq (tgt := 79) dX11_told_72 (by decide) (fun hc => ?_) (fun hc => ?_)
            · replace h := h.1 hc
              refine wp_iconst dX11_told_79 rfl ?_
              exact wp_iret dX11_told_80 rfl h
            · replace h := h.2 hc
              refine wp_iconst dX11_told_75 rfl ?_
              refine wp_goto (tgt := 80) dX11_told_76 (by decide) ?_
              exact wp_iret dX11_told_80 rfl h
          · replace h := h.2
            by_cases q5 : x1 = 5
            · refine wp_tsIn (tgt := 81) dX11_told_9 (by omega) (by omega) (by rw [q5]; rfl) (by decide) ?_
              replace h := h.1 q5
              refine wp_aload_n dX11_told_81 rfl rfl ?_
              refine wp_getI dX11_told_82 fl_CustomValley_144 rfl rfl rfl ?_
              exact wp_iret dX11_told_85 rfl h
            · replace h := h.2
              refine wp_tsOut (tgt := 86) dX11_told_9 (by omega) (by decide) ?_
              replace h := h (by omega)
              refine wp_aload_n dX11_told_86 rfl rfl ?_
              refine wp_iload_n dX11_told_87 rfl rfl ?_
              refine wp_invS (N := mX11_toldOfOne) [vR 10 0, vI x1] dX11_told_88 ml_CustomValley_147 mvX11_toldOfOne rfl rfl rfl (Nat.le_of_ble_eq_true rfl) (Nat.le_of_ble_eq_true rfl) (by decide) (by decide) ?_
              exact WP.mono h (ct_drop (lle_c (Or.inr rfl) (lle_c (Or.inr rfl) (lle_c (Or.inr rfl) lle_n))))
theorem b_X11_told_91 {t0 : Int} {σ : St} {Q : Res → St → Prop} (h : Q (.inl (some (vI t0))) σ) : WP mX11_told 91 [vU, vU, vU] [vI t0] σ Q := by
  exact wp_iret dX11_told_91 rfl h
theorem dX11_worth_0 : decode cX11_worth 0 = .ok (.aload_n 0, 1) := by decide +kernel
theorem dX11_worth_1 : decode cX11_worth 1 = .ok (.getfield 28, 3) := by decide +kernel
theorem dX11_worth_4 : decode cX11_worth 4 = .ok (.getfield 103, 3) := by decide +kernel
theorem dX11_worth_7 : decode cX11_worth 7 = .ok (.astore_n 3, 1) := by decide +kernel
theorem dX11_worth_8 : decode cX11_worth 8 = .ok (.aload_n 3, 1) := by decide +kernel
theorem dX11_worth_9 : decode cX11_worth 9 = .ok (.iload_n 1, 1) := by decide +kernel
theorem dX11_worth_10 : decode cX11_worth 10 = .ok (.invokevirtual 151, 3) := by decide +kernel
theorem dX11_worth_13 : decode cX11_worth 13 = .ok (.ifCond .eq 20, 3) := by decide +kernel
theorem dX11_worth_16 : decode cX11_worth 16 = .ok (.aload_n 3, 1) := by decide +kernel
theorem dX11_worth_17 : decode cX11_worth 17 = .ok (.iload_n 2, 1) := by decide +kernel
theorem dX11_worth_18 : decode cX11_worth 18 = .ok (.invokevirtual 155, 3) := by decide +kernel
theorem dX11_worth_21 : decode cX11_worth 21 = .ok (.ifCond .eq 12, 3) := by decide +kernel
theorem dX11_worth_24 : decode cX11_worth 24 = .ok (.aload_n 3, 1) := by decide +kernel
theorem dX11_worth_25 : decode cX11_worth 25 = .ok (.iload_n 1, 1) := by decide +kernel
theorem dX11_worth_26 : decode cX11_worth 26 = .ok (.iload_n 2, 1) := by decide +kernel
theorem dX11_worth_27 : decode cX11_worth 27 = .ok (.invokevirtual 162, 3) := by decide +kernel
theorem dX11_worth_30 : decode cX11_worth 30 = .ok (.goto 5, 3) := by decide +kernel
theorem dX11_worth_33 : decode cX11_worth 33 = .ok (.bipush (-2), 2) := by decide +kernel
theorem dX11_worth_35 : decode cX11_worth 35 = .ok (.ireturn, 1) := by decide +kernel
theorem b_X11_worth_0 {x1 : Int} {x2 : Int} {σ : St} {Q : Res → St → Prop} (h : WP mX9_isState 0 [vR 10 0, vI x1, vU] [] σ (CT mX11_worth 13 [vU, vI x1, vI x2, vR 10 0] [] Q)) : WP mX11_worth 0 [vR 12 0, vI x1, vI x2, vU] [] σ Q := by
  refine wp_aload_n dX11_worth_0 rfl rfl ?_
  refine wp_getR dX11_worth_1 fl_CustomValley_28 rfl rfl ?_
  refine wp_getR dX11_worth_4 fl_CustomValley_103 rfl rfl ?_
  refine wp_astore_n dX11_worth_7 rfl (by decide) rfl rfl ?_
  refine wp_aload_n dX11_worth_8 rfl rfl ?_
  refine wp_iload_n dX11_worth_9 rfl rfl ?_
  refine wp_invV (N := mX9_isState) [vI x1] dX11_worth_10 ml_CustomValley_151 mvX9_isState rfl rfl rfl rfl rfl (Nat.le_of_ble_eq_true rfl) (Nat.le_of_ble_eq_true rfl) (by decide) (by decide) (by decide) ?_
  exact WP.mono h (ct_drop (lle_c (Or.inr rfl) (lle_c (Or.inl rfl) (lle_c (Or.inl rfl) (lle_c (Or.inl rfl) lle_n)))))
theorem b_X11_worth_13 {x1 : Int} {x2 : Int} {t0 : Int} {σ : St} {Q : Res → St → Prop} (h : ((t0 = 0) → (Q (.inl (some (vI (-2)))) σ)) ∧ ((t0 ≠ 0) → (((¬ (0 ≤ x2 ∧ x2 < (σ 10 0 0))) → (Q (.inl (some (vI (-2)))) σ)) ∧ ((0 ≤ x2 ∧ x2 < (σ 10 0 0)) → (WP mX9_worthIn 0 [vR 10 0, vI x1, vI x2, vU, vU, vU] [] σ (CT mX11_worth 30 [vU, vU, vU, vU] [] Q)))))) : WP mX11_worth 13 [vU, vI x1, vI x2, vR 10 0] [vI t0] σ Q := by
  refine wp_if_eq (tgt := 33) dX11_worth_13 (by decide) (fun hc => ?_) (fun hc => ?_)
  · replace h := h.1 hc
    refine wp_bipush dX11_worth_33 rfl ?_
    exact wp_iret dX11_worth_35 rfl h
  · replace h := h.2 hc
    refine wp_aload_n dX11_worth_16 rfl rfl ?_
    refine wp_iload_n dX11_worth_17 rfl rfl ?_
    refine wp_invV (N := mX9_isPerson) [vI x2] dX11_worth_18 ml_CustomValley_155 mvX9_isPerson rfl rfl rfl rfl rfl (Nat.le_of_ble_eq_true rfl) (Nat.le_of_ble_eq_true rfl) (by decide) (by decide) (by decide) ?_
    refine pb_X9_isPerson (by trivial) ?_
    show WP mX11_worth 21 [vU, vI x1, vI x2, vR 10 0] [vI (b2 (0 ≤ x2 ∧ x2 < (σ 10 0 0)))] σ Q
    refine wp_if_eq (tgt := 33) dX11_worth_21 (by decide) (fun hc => ?_) (fun hc => ?_)
    · replace h := h.1 (b2_eq hc)
      refine wp_bipush dX11_worth_33 rfl ?_
      exact wp_iret dX11_worth_35 rfl h
    · replace h := h.2 (b2_ne hc)
      refine wp_aload_n dX11_worth_24 rfl rfl ?_
      refine wp_iload_n dX11_worth_25 rfl rfl ?_
      refine wp_iload_n dX11_worth_26 rfl rfl ?_
      refine wp_invV (N := mX9_worthIn) [vI x1, vI x2] dX11_worth_27 ml_CustomValley_162 mvX9_worthIn rfl rfl rfl rfl rfl (Nat.le_of_ble_eq_true rfl) (Nat.le_of_ble_eq_true rfl) (by decide) (by decide) (by decide) ?_
      exact WP.mono h (ct_drop (lle_c (Or.inl rfl) (lle_c (Or.inr rfl) (lle_c (Or.inr rfl) (lle_c (Or.inr rfl) lle_n)))))
theorem b_X11_worth_30 {t0 : Int} {σ : St} {Q : Res → St → Prop} (h : Q (.inl (some (vI t0))) σ) : WP mX11_worth 30 [vU, vU, vU, vU] [vI t0] σ Q := by
  refine wp_goto (tgt := 35) dX11_worth_30 (by decide) ?_
  exact wp_iret dX11_worth_35 rfl h
theorem dX11_aimAt_0 : decode cX11_aimAt 0 = .ok (.aload_n 0, 1) := by decide +kernel
theorem dX11_aimAt_1 : decode cX11_aimAt 1 = .ok (.getfield 356, 3) := by decide +kernel
theorem dX11_aimAt_4 : decode cX11_aimAt 4 = .ok (.iload_n 1, 1) := by decide +kernel
theorem dX11_aimAt_5 : decode cX11_aimAt 5 = .ok (.if_icmp .eq 20, 3) := by decide +kernel
theorem dX11_aimAt_8 : decode cX11_aimAt 8 = .ok (.aload_n 0, 1) := by decide +kernel
theorem dX11_aimAt_9 : decode cX11_aimAt 9 = .ok (.getfield 42, 3) := by decide +kernel
theorem dX11_aimAt_12 : decode cX11_aimAt 12 = .ok (.aload_n 0, 1) := by decide +kernel
theorem dX11_aimAt_13 : decode cX11_aimAt 13 = .ok (.getfield 28, 3) := by decide +kernel
theorem dX11_aimAt_16 : decode cX11_aimAt 16 = .ok (.iload_n 1, 1) := by decide +kernel
theorem dX11_aimAt_17 : decode cX11_aimAt 17 = .ok (.invokevirtual 378, 3) := by decide +kernel
theorem dX11_aimAt_20 : decode cX11_aimAt 20 = .ok (.aload_n 0, 1) := by decide +kernel
theorem dX11_aimAt_21 : decode cX11_aimAt 21 = .ok (.iload_n 1, 1) := by decide +kernel
theorem dX11_aimAt_22 : decode cX11_aimAt 22 = .ok (.putfield 356, 3) := by decide +kernel
theorem dX11_aimAt_25 : decode cX11_aimAt 25 = .ok (.return_, 1) := by decide +kernel
theorem b_X11_aimAt_0 {x1 : Int} {σ : St} {Q : Res → St → Prop} (h : (((σ 12 0 15) = x1) → (Q (.inl none) σ)) ∧ (((σ 12 0 15) ≠ x1) → (WP mX5_toRest 0 [vR 6 1, vR 2 0, vI x1, vU, vU] [] σ (CT mX11_aimAt 20 [vR 12 0, vI x1] [] Q)))) : WP mX11_aimAt 0 [vR 12 0, vI x1] [] σ Q := by
  refine wp_aload_n dX11_aimAt_0 rfl rfl ?_
  refine wp_getI dX11_aimAt_1 fl_CustomValley_356 rfl rfl rfl ?_
  refine wp_iload_n dX11_aimAt_4 rfl rfl ?_
  refine wp_icmp_eq (tgt := 25) dX11_aimAt_5 (by decide) (fun hc => ?_) (fun hc => ?_)
  · replace h := h.1 hc
    exact wp_ret dX11_aimAt_25 rfl h
  · replace h := h.2 hc
    refine wp_aload_n dX11_aimAt_8 rfl rfl ?_
    refine wp_getR dX11_aimAt_9 fl_CustomValley_42 rfl rfl ?_
    refine wp_aload_n dX11_aimAt_12 rfl rfl ?_
    refine wp_getR dX11_aimAt_13 fl_CustomValley_28 rfl rfl ?_
    refine wp_iload_n dX11_aimAt_16 rfl rfl ?_
    refine wp_invV (N := mX5_toRest) [vR 2 0, vI x1] dX11_aimAt_17 ml_CustomValley_378 mvX5_toRest rfl rfl rfl rfl rfl (Nat.le_of_ble_eq_true rfl) (Nat.le_of_ble_eq_true rfl) (by decide) (by decide) (by decide) ?_
    exact h
theorem b_X11_aimAt_20 {x1 : Int} {σ : St} {Q : Res → St → Prop} (h : Q (.inl none) (up σ 12 0 15 x1)) : WP mX11_aimAt 20 [vR 12 0, vI x1] [] σ Q := by
  refine wp_aload_n dX11_aimAt_20 rfl rfl ?_
  refine wp_iload_n dX11_aimAt_21 rfl rfl ?_
  refine wp_putI dX11_aimAt_22 fp_CustomValley_356 rfl rfl rfl ?_
  exact wp_ret dX11_aimAt_25 rfl h
theorem dX11_bindInTrial_0 : decode cX11_bindInTrial 0 = .ok (.aload_n 0, 1) := by decide +kernel
theorem dX11_bindInTrial_1 : decode cX11_bindInTrial 1 = .ok (.getfield 32, 3) := by decide +kernel
theorem dX11_bindInTrial_4 : decode cX11_bindInTrial 4 = .ok (.getfield 103, 3) := by decide +kernel
theorem dX11_bindInTrial_7 : decode cX11_bindInTrial 7 = .ok (.astore_n 3, 1) := by decide +kernel
theorem dX11_bindInTrial_8 : decode cX11_bindInTrial 8 = .ok (.aload_n 3, 1) := by decide +kernel
theorem dX11_bindInTrial_9 : decode cX11_bindInTrial 9 = .ok (.aload_n 0, 1) := by decide +kernel
theorem dX11_bindInTrial_10 : decode cX11_bindInTrial 10 = .ok (.getfield 28, 3) := by decide +kernel
theorem dX11_bindInTrial_13 : decode cX11_bindInTrial 13 = .ok (.getfield 103, 3) := by decide +kernel
theorem dX11_bindInTrial_16 : decode cX11_bindInTrial 16 = .ok (.invokevirtual 110, 3) := by decide +kernel
theorem dX11_bindInTrial_19 : decode cX11_bindInTrial 19 = .ok (.iconst 0, 1) := by decide +kernel
theorem dX11_bindInTrial_20 : decode cX11_bindInTrial 20 = .ok (.istore 4, 2) := by decide +kernel
theorem dX11_bindInTrial_22 : decode cX11_bindInTrial 22 = .ok (.iload 4, 2) := by decide +kernel
theorem dX11_bindInTrial_24 : decode cX11_bindInTrial 24 = .ok (.aload_n 3, 1) := by decide +kernel
theorem dX11_bindInTrial_25 : decode cX11_bindInTrial 25 = .ok (.getfield 128, 3) := by decide +kernel
theorem dX11_bindInTrial_28 : decode cX11_bindInTrial 28 = .ok (.if_icmp .ge 26, 3) := by decide +kernel
theorem dX11_bindInTrial_31 : decode cX11_bindInTrial 31 = .ok (.iload_n 1, 1) := by decide +kernel
theorem dX11_bindInTrial_32 : decode cX11_bindInTrial 32 = .ok (.iload 4, 2) := by decide +kernel
theorem dX11_bindInTrial_34 : decode cX11_bindInTrial 34 = .ok (.ishr, 1) := by decide +kernel
theorem dX11_bindInTrial_35 : decode cX11_bindInTrial 35 = .ok (.iconst 1, 1) := by decide +kernel
theorem dX11_bindInTrial_36 : decode cX11_bindInTrial 36 = .ok (.iand, 1) := by decide +kernel
theorem dX11_bindInTrial_37 : decode cX11_bindInTrial 37 = .ok (.ifCond .eq 11, 3) := by decide +kernel
theorem dX11_bindInTrial_40 : decode cX11_bindInTrial 40 = .ok (.aload_n 3, 1) := by decide +kernel
theorem dX11_bindInTrial_41 : decode cX11_bindInTrial 41 = .ok (.getfield 372, 3) := by decide +kernel
theorem dX11_bindInTrial_44 : decode cX11_bindInTrial 44 = .ok (.iload 4, 2) := by decide +kernel
theorem dX11_bindInTrial_46 : decode cX11_bindInTrial 46 = .ok (.iload_n 2, 1) := by decide +kernel
theorem dX11_bindInTrial_47 : decode cX11_bindInTrial 47 = .ok (.iastore, 1) := by decide +kernel
theorem dX11_bindInTrial_48 : decode cX11_bindInTrial 48 = .ok (.iinc 4 1, 3) := by decide +kernel
theorem dX11_bindInTrial_51 : decode cX11_bindInTrial 51 = .ok (.goto (-29), 3) := by decide +kernel
theorem dX11_bindInTrial_54 : decode cX11_bindInTrial 54 = .ok (.aload_n 3, 1) := by decide +kernel
theorem dX11_bindInTrial_55 : decode cX11_bindInTrial 55 = .ok (.invokevirtual 390, 3) := by decide +kernel
theorem dX11_bindInTrial_58 : decode cX11_bindInTrial 58 = .ok (.aload_n 0, 1) := by decide +kernel
theorem dX11_bindInTrial_59 : decode cX11_bindInTrial 59 = .ok (.getfield 32, 3) := by decide +kernel
theorem dX11_bindInTrial_62 : decode cX11_bindInTrial 62 = .ok (.invokevirtual 116, 3) := by decide +kernel
theorem dX11_bindInTrial_65 : decode cX11_bindInTrial 65 = .ok (.aload_n 0, 1) := by decide +kernel
theorem dX11_bindInTrial_66 : decode cX11_bindInTrial 66 = .ok (.getfield 32, 3) := by decide +kernel
theorem dX11_bindInTrial_69 : decode cX11_bindInTrial 69 = .ok (.invokevirtual 393, 3) := by decide +kernel
theorem dX11_bindInTrial_72 : decode cX11_bindInTrial 72 = .ok (.pop, 1) := by decide +kernel
theorem dX11_bindInTrial_73 : decode cX11_bindInTrial 73 = .ok (.return_, 1) := by decide +kernel
theorem b_X11_bindInTrial_0 {x1 : Int} {x2 : Int} {σ : St} {Q : Res → St → Prop} (h : WP mX9_copyFrom 0 [vR 10 1, vR 10 0] [] σ (CT mX11_bindInTrial 19 [vR 12 0, vI x1, vI x2, vR 10 1, vU] [] Q)) : WP mX11_bindInTrial 0 [vR 12 0, vI x1, vI x2, vU, vU] [] σ Q := by
  refine wp_aload_n dX11_bindInTrial_0 rfl rfl ?_
  refine wp_getR dX11_bindInTrial_1 fl_CustomValley_32 rfl rfl ?_
  refine wp_getR dX11_bindInTrial_4 fl_CustomValley_103 rfl rfl ?_
  refine wp_astore_n dX11_bindInTrial_7 rfl (by decide) rfl rfl ?_
  refine wp_aload_n dX11_bindInTrial_8 rfl rfl ?_
  refine wp_aload_n dX11_bindInTrial_9 rfl rfl ?_
  refine wp_getR dX11_bindInTrial_10 fl_CustomValley_28 rfl rfl ?_
  refine wp_getR dX11_bindInTrial_13 fl_CustomValley_103 rfl rfl ?_
  refine wp_invV (N := mX9_copyFrom) [vR 10 0] dX11_bindInTrial_16 ml_CustomValley_110 mvX9_copyFrom rfl rfl rfl rfl rfl (Nat.le_of_ble_eq_true rfl) (Nat.le_of_ble_eq_true rfl) (by decide) (by decide) (by decide) ?_
  exact h
theorem b_X11_bindInTrial_19 {x1 : Int} {x2 : Int} {σ : St} {Q : Res → St → Prop} (h : WP mX11_bindInTrial 22 [vR 12 0, vI x1, vI x2, vR 10 1, vI 0] [] σ Q) : WP mX11_bindInTrial 19 [vR 12 0, vI x1, vI x2, vR 10 1, vU] [] σ Q := by
  refine wp_iconst dX11_bindInTrial_19 rfl ?_
  refine wp_istore dX11_bindInTrial_20 (by decide) rfl rfl ?_
  exact h
theorem b_X11_bindInTrial_22 {x1 : Int} {x2 : Int} {x4 : Int} {σ : St} {Q : Res → St → Prop} (h : (((σ 10 1 0) ≤ x4) → (WP mX9_settle 0 [vR 10 1, vU] [] σ (CT mX11_bindInTrial 58 [vR 12 0, vU, vU, vU, vU] [] Q))) ∧ ((x4 < (σ 10 1 0)) → ((((band (shr x1 x4) 1) = 0) → ((in32 (x4 + 1)) ∧ (WP mX11_bindInTrial 22 [vR 12 0, vI x1, vI x2, vR 10 1, vI (x4 + 1)] [] σ Q))) ∧ (((band (shr x1 x4) 1) ≠ 0) → ((0 ≤ x4 ∧ x4 < 10) ∧ ((in32 (x4 + 1)) ∧ (WP mX11_bindInTrial 22 [vR 12 0, vI x1, vI x2, vR 10 1, vI (x4 + 1)] [] (up σ 57 1 x4.toNat x2) Q))))))) : WP mX11_bindInTrial 22 [vR 12 0, vI x1, vI x2, vR 10 1, vI x4] [] σ Q := by
  refine wp_iload dX11_bindInTrial_22 rfl ?_
  refine wp_aload_n dX11_bindInTrial_24 rfl rfl ?_
  refine wp_getI dX11_bindInTrial_25 fl_CustomValley_128 rfl rfl rfl ?_
  refine wp_icmp_ge (tgt := 54) dX11_bindInTrial_28 (by decide) (fun hc => ?_) (fun hc => ?_)
  · replace h := h.1 hc
    refine wp_aload_n dX11_bindInTrial_54 rfl rfl ?_
    refine wp_invV (N := mX9_settle) [] dX11_bindInTrial_55 ml_CustomValley_390 mvX9_settle rfl rfl rfl rfl rfl (Nat.le_of_ble_eq_true rfl) (Nat.le_of_ble_eq_true rfl) (by decide) (by decide) (by decide) ?_
    exact WP.mono h (ct_drop (lle_c (Or.inl rfl) (lle_c (Or.inr rfl) (lle_c (Or.inr rfl) (lle_c (Or.inr rfl) (lle_c (Or.inr rfl) lle_n))))))
  · replace h := h.2 hc
    refine wp_iload_n dX11_bindInTrial_31 rfl rfl ?_
    refine wp_iload dX11_bindInTrial_32 rfl ?_
    refine wp_ishr dX11_bindInTrial_34 ?_
    refine wp_iconst dX11_bindInTrial_35 rfl ?_
    refine wp_iand dX11_bindInTrial_36 ?_
    refine wp_if_eq (tgt := 48) dX11_bindInTrial_37 (by decide) (fun hc => ?_) (fun hc => ?_)
    · replace h := h.1 hc
      have s1 := h.1
      replace h := h.2
      refine wp_iinc dX11_bindInTrial_48 rfl (by decide) rfl rfl ?_ (h1 := s1.1) (h2 := s1.2)
      refine wp_goto (tgt := 22) dX11_bindInTrial_51 (by decide) ?_
      exact h
    · replace h := h.2 hc
      refine wp_aload_n dX11_bindInTrial_40 rfl rfl ?_
      refine wp_getR dX11_bindInTrial_41 fl_CustomValley_372 rfl rfl ?_
      refine wp_iload dX11_bindInTrial_44 rfl ?_
      refine wp_iload_n dX11_bindInTrial_46 rfl rfl ?_
      have s3 := h.1
      replace h := h.2
      refine wp_iastore dX11_bindInTrial_47 rfl rfl s3.1 s3.2 ?_
      have s2 := h.1
      replace h := h.2
      refine wp_iinc dX11_bindInTrial_48 rfl (by decide) rfl rfl ?_ (h1 := s2.1) (h2 := s2.2)
      refine wp_goto (tgt := 22) dX11_bindInTrial_51 (by decide) ?_
      exact h
theorem b_X11_bindInTrial_58  {σ : St} {Q : Res → St → Prop} (h : WP mX1_change 0 [vR 2 1] [] σ (CT mX11_bindInTrial 65 [vR 12 0, vU, vU, vU, vU] [] Q)) : WP mX11_bindInTrial 58 [vR 12 0, vU, vU, vU, vU] [] σ Q := by
  refine wp_aload_n dX11_bindInTrial_58 rfl rfl ?_
  refine wp_getR dX11_bindInTrial_59 fl_CustomValley_32 rfl rfl ?_
  refine wp_invV (N := mX1_change) [] dX11_bindInTrial_62 ml_CustomValley_116 mvX1_change rfl rfl rfl rfl rfl (Nat.le_of_ble_eq_true rfl) (Nat.le_of_ble_eq_true rfl) (by decide) (by decide) (by decide) ?_
  exact h
theorem b_X11_bindInTrial_65  {σ : St} {Q : Res → St → Prop} (h : WP mX1_reply 0 [vR 2 1] [] σ (CT mX11_bindInTrial 72 [vU, vU, vU, vU, vU] [] Q)) : WP mX11_bindInTrial 65 [vR 12 0, vU, vU, vU, vU] [] σ Q := by
  refine wp_aload_n dX11_bindInTrial_65 rfl rfl ?_
  refine wp_getR dX11_bindInTrial_66 fl_CustomValley_32 rfl rfl ?_
  refine wp_invV (N := mX1_reply) [] dX11_bindInTrial_69 ml_CustomValley_393 mvX1_reply rfl rfl rfl rfl rfl (Nat.le_of_ble_eq_true rfl) (Nat.le_of_ble_eq_true rfl) (by decide) (by decide) (by decide) ?_
  exact WP.mono h (ct_drop (lle_c (Or.inr rfl) (lle_c (Or.inl rfl) (lle_c (Or.inl rfl) (lle_c (Or.inl rfl) (lle_c (Or.inl rfl) lle_n))))))
theorem b_X11_bindInTrial_72 {t0 : Int} {σ : St} {Q : Res → St → Prop} (h : Q (.inl none) σ) : WP mX11_bindInTrial 72 [vU, vU, vU, vU, vU] [vI t0] σ Q := by
  refine wp_pop dX11_bindInTrial_72 ?_
  exact wp_ret dX11_bindInTrial_73 rfl h
theorem dX11_farthest_0 : decode cX11_farthest 0 = .ok (.aload_n 0, 1) := by decide +kernel
theorem dX11_farthest_1 : decode cX11_farthest 1 = .ok (.iload_n 1, 1) := by decide +kernel
theorem dX11_farthest_2 : decode cX11_farthest 2 = .ok (.invokevirtual 218, 3) := by decide +kernel
theorem dX11_farthest_5 : decode cX11_farthest 5 = .ok (.iconst 0, 1) := by decide +kernel
theorem dX11_farthest_6 : decode cX11_farthest 6 = .ok (.istore_n 2, 1) := by decide +kernel
theorem dX11_farthest_7 : decode cX11_farthest 7 = .ok (.iconst 0, 1) := by decide +kernel
theorem dX11_farthest_8 : decode cX11_farthest 8 = .ok (.istore_n 3, 1) := by decide +kernel
theorem dX11_farthest_9 : decode cX11_farthest 9 = .ok (.iload_n 3, 1) := by decide +kernel
theorem dX11_farthest_10 : decode cX11_farthest 10 = .ok (.aload_n 0, 1) := by decide +kernel
theorem dX11_farthest_11 : decode cX11_farthest 11 = .ok (.getfield 28, 3) := by decide +kernel
theorem dX11_farthest_14 : decode cX11_farthest 14 = .ok (.getfield 103, 3) := by decide +kernel
theorem dX11_farthest_17 : decode cX11_farthest 17 = .ok (.getfield 144, 3) := by decide +kernel
theorem dX11_farthest_20 : decode cX11_farthest 20 = .ok (.if_icmp .ge 34, 3) := by decide +kernel
theorem dX11_farthest_23 : decode cX11_farthest 23 = .ok (.iload_n 2, 1) := by decide +kernel
theorem dX11_farthest_24 : decode cX11_farthest 24 = .ok (.aload_n 0, 1) := by decide +kernel
theorem dX11_farthest_25 : decode cX11_farthest 25 = .ok (.getfield 42, 3) := by decide +kernel
theorem dX11_farthest_28 : decode cX11_farthest 28 = .ok (.getfield 221, 3) := by decide +kernel
theorem dX11_farthest_31 : decode cX11_farthest 31 = .ok (.aload_n 0, 1) := by decide +kernel
theorem dX11_farthest_32 : decode cX11_farthest 32 = .ok (.getfield 28, 3) := by decide +kernel
theorem dX11_farthest_35 : decode cX11_farthest 35 = .ok (.getfield 103, 3) := by decide +kernel
theorem dX11_farthest_38 : decode cX11_farthest 38 = .ok (.getfield 271, 3) := by decide +kernel
theorem dX11_farthest_41 : decode cX11_farthest 41 = .ok (.iload_n 3, 1) := by decide +kernel
theorem dX11_farthest_42 : decode cX11_farthest 42 = .ok (.iaload, 1) := by decide +kernel
theorem dX11_farthest_43 : decode cX11_farthest 43 = .ok (.iaload, 1) := by decide +kernel
theorem dX11_farthest_44 : decode cX11_farthest 44 = .ok (.invokestatic 382, 3) := by decide +kernel
theorem dX11_farthest_47 : decode cX11_farthest 47 = .ok (.istore_n 2, 1) := by decide +kernel
theorem dX11_farthest_48 : decode cX11_farthest 48 = .ok (.iinc 3 1, 3) := by decide +kernel
theorem dX11_farthest_51 : decode cX11_farthest 51 = .ok (.goto (-42), 3) := by decide +kernel
theorem dX11_farthest_54 : decode cX11_farthest 54 = .ok (.iload_n 2, 1) := by decide +kernel
theorem dX11_farthest_55 : decode cX11_farthest 55 = .ok (.ireturn, 1) := by decide +kernel
theorem b_X11_farthest_0 {x1 : Int} {σ : St} {Q : Res → St → Prop} (h : WP mX11_aimAt 0 [vR 12 0, vI x1] [] σ (CT mX11_farthest 5 [vR 12 0, vU, vU, vU] [] Q)) : WP mX11_farthest 0 [vR 12 0, vI x1, vU, vU] [] σ Q := by
  refine wp_aload_n dX11_farthest_0 rfl rfl ?_
  refine wp_iload_n dX11_farthest_1 rfl rfl ?_
  refine wp_invV (N := mX11_aimAt) [vI x1] dX11_farthest_2 ml_CustomValley_218 mvX11_aimAt rfl rfl rfl rfl rfl (Nat.le_of_ble_eq_true rfl) (Nat.le_of_ble_eq_true rfl) (by decide) (by decide) (by decide) ?_
  exact WP.mono h (ct_drop (lle_c (Or.inl rfl) (lle_c (Or.inr rfl) (lle_c (Or.inl rfl) (lle_c (Or.inl rfl) lle_n)))))
theorem b_X11_farthest_5  {σ : St} {Q : Res → St → Prop} (h : WP mX11_farthest 9 [vR 12 0, vU, vI 0, vI 0] [] σ Q) : WP mX11_farthest 5 [vR 12 0, vU, vU, vU] [] σ Q := by
  refine wp_iconst dX11_farthest_5 rfl ?_
  refine wp_istore_n dX11_farthest_6 rfl (by decide) rfl rfl ?_
  refine wp_iconst dX11_farthest_7 rfl ?_
  refine wp_istore_n dX11_farthest_8 rfl (by decide) rfl rfl ?_
  exact h
theorem b_X11_farthest_9 {x2 : Int} {x3 : Int} {σ : St} {Q : Res → St → Prop} (h : (((σ 10 0 12) ≤ x3) → (Q (.inl (some (vI x2))) σ)) ∧ ((x3 < (σ 10 0 12)) → ((0 ≤ x3 ∧ x3 < 1024) ∧ ((0 ≤ σ 61 0 x3.toNat ∧ (σ 61 0 x3.toNat) < 1024) ∧ ((in32 (x3 + 1)) ∧ (WP mX11_farthest 9 [vR 12 0, vU, vI (max x2 (σ 37 1 ((σ 61 0 x3.toNat).toNat))), vI (x3 + 1)] [] σ Q)))))) : WP mX11_farthest 9 [vR 12 0, vU, vI x2, vI x3] [] σ Q := by
  refine wp_iload_n dX11_farthest_9 rfl rfl ?_
  refine wp_aload_n dX11_farthest_10 rfl rfl ?_
  refine wp_getR dX11_farthest_11 fl_CustomValley_28 rfl rfl ?_
  refine wp_getR dX11_farthest_14 fl_CustomValley_103 rfl rfl ?_
  refine wp_getI dX11_farthest_17 fl_CustomValley_144 rfl rfl rfl ?_
  refine wp_icmp_ge (tgt := 54) dX11_farthest_20 (by decide) (fun hc => ?_) (fun hc => ?_)
  · replace h := h.1 hc
    refine wp_iload_n dX11_farthest_54 rfl rfl ?_
    exact wp_iret dX11_farthest_55 rfl h
  · replace h := h.2 hc
    refine wp_iload_n dX11_farthest_23 rfl rfl ?_
    refine wp_aload_n dX11_farthest_24 rfl rfl ?_
    refine wp_getR dX11_farthest_25 fl_CustomValley_42 rfl rfl ?_
    refine wp_getR dX11_farthest_28 fl_CustomValley_221 rfl rfl ?_
    refine wp_aload_n dX11_farthest_31 rfl rfl ?_
    refine wp_getR dX11_farthest_32 fl_CustomValley_28 rfl rfl ?_
    refine wp_getR dX11_farthest_35 fl_CustomValley_103 rfl rfl ?_
    refine wp_getR dX11_farthest_38 fl_CustomValley_271 rfl rfl ?_
    refine wp_iload_n dX11_farthest_41 rfl rfl ?_
    have s3 := h.1
    replace h := h.2
    refine wp_iaload dX11_farthest_42 rfl rfl s3.1 s3.2 ?_
    have s2 := h.1
    replace h := h.2
    refine wp_iaload dX11_farthest_43 rfl rfl s2.1 s2.2 ?_
    refine wp_mmax dX11_farthest_44 mm_CustomValley_382 (by decide) (Nat.le_of_ble_eq_true rfl) ?_
    refine wp_istore_n dX11_farthest_47 rfl (by decide) rfl rfl ?_
    have s1 := h.1
    replace h := h.2
    refine wp_iinc dX11_farthest_48 rfl (by decide) rfl rfl ?_ (h1 := s1.1) (h2 := s1.2)
    refine wp_goto (tgt := 9) dX11_farthest_51 (by decide) ?_
    exact h
theorem dX11_giveInTrial_0 : decode cX11_giveInTrial 0 = .ok (.aload_n 0, 1) := by decide +kernel
theorem dX11_giveInTrial_1 : decode cX11_giveInTrial 1 = .ok (.getfield 32, 3) := by decide +kernel
theorem dX11_giveInTrial_4 : decode cX11_giveInTrial 4 = .ok (.getfield 103, 3) := by decide +kernel
theorem dX11_giveInTrial_7 : decode cX11_giveInTrial 7 = .ok (.astore_n 3, 1) := by decide +kernel
theorem dX11_giveInTrial_8 : decode cX11_giveInTrial 8 = .ok (.iload_n 2, 1) := by decide +kernel
theorem dX11_giveInTrial_9 : decode cX11_giveInTrial 9 = .ok (.ifCond .ne 14, 3) := by decide +kernel
theorem dX11_giveInTrial_12 : decode cX11_giveInTrial 12 = .ok (.aload_n 3, 1) := by decide +kernel
theorem dX11_giveInTrial_13 : decode cX11_giveInTrial 13 = .ok (.aload_n 0, 1) := by decide +kernel
theorem dX11_giveInTrial_14 : decode cX11_giveInTrial 14 = .ok (.getfield 28, 3) := by decide +kernel
theorem dX11_giveInTrial_17 : decode cX11_giveInTrial 17 = .ok (.getfield 103, 3) := by decide +kernel
theorem dX11_giveInTrial_20 : decode cX11_giveInTrial 20 = .ok (.invokevirtual 110, 3) := by decide +kernel
theorem dX11_giveInTrial_23 : decode cX11_giveInTrial 23 = .ok (.iconst 0, 1) := by decide +kernel
theorem dX11_giveInTrial_24 : decode cX11_giveInTrial 24 = .ok (.istore 4, 2) := by decide +kernel
theorem dX11_giveInTrial_26 : decode cX11_giveInTrial 26 = .ok (.iload 4, 2) := by decide +kernel
theorem dX11_giveInTrial_28 : decode cX11_giveInTrial 28 = .ok (.aload_n 3, 1) := by decide +kernel
theorem dX11_giveInTrial_29 : decode cX11_giveInTrial 29 = .ok (.getfield 131, 3) := by decide +kernel
theorem dX11_giveInTrial_32 : decode cX11_giveInTrial 32 = .ok (.if_icmp .ge 39, 3) := by decide +kernel
theorem dX11_giveInTrial_35 : decode cX11_giveInTrial 35 = .ok (.aload_n 3, 1) := by decide +kernel
theorem dX11_giveInTrial_36 : decode cX11_giveInTrial 36 = .ok (.getfield 375, 3) := by decide +kernel
theorem dX11_giveInTrial_39 : decode cX11_giveInTrial 39 = .ok (.iload_n 1, 1) := by decide +kernel
theorem dX11_giveInTrial_40 : decode cX11_giveInTrial 40 = .ok (.iconst 4, 1) := by decide +kernel
theorem dX11_giveInTrial_41 : decode cX11_giveInTrial 41 = .ok (.imul, 1) := by decide +kernel
theorem dX11_giveInTrial_42 : decode cX11_giveInTrial 42 = .ok (.iload 4, 2) := by decide +kernel
theorem dX11_giveInTrial_44 : decode cX11_giveInTrial 44 = .ok (.iadd, 1) := by decide +kernel
theorem dX11_giveInTrial_45 : decode cX11_giveInTrial 45 = .ok (.aload_n 0, 1) := by decide +kernel
theorem dX11_giveInTrial_46 : decode cX11_giveInTrial 46 = .ok (.getfield 28, 3) := by decide +kernel
theorem dX11_giveInTrial_49 : decode cX11_giveInTrial 49 = .ok (.getfield 103, 3) := by decide +kernel
theorem dX11_giveInTrial_52 : decode cX11_giveInTrial 52 = .ok (.getfield 375, 3) := by decide +kernel
theorem dX11_giveInTrial_55 : decode cX11_giveInTrial 55 = .ok (.iload_n 1, 1) := by decide +kernel
theorem dX11_giveInTrial_56 : decode cX11_giveInTrial 56 = .ok (.iconst 4, 1) := by decide +kernel
theorem dX11_giveInTrial_57 : decode cX11_giveInTrial 57 = .ok (.imul, 1) := by decide +kernel
theorem dX11_giveInTrial_58 : decode cX11_giveInTrial 58 = .ok (.iload 4, 2) := by decide +kernel
theorem dX11_giveInTrial_60 : decode cX11_giveInTrial 60 = .ok (.iadd, 1) := by decide +kernel
theorem dX11_giveInTrial_61 : decode cX11_giveInTrial 61 = .ok (.iaload, 1) := by decide +kernel
theorem dX11_giveInTrial_62 : decode cX11_giveInTrial 62 = .ok (.iload_n 2, 1) := by decide +kernel
theorem dX11_giveInTrial_63 : decode cX11_giveInTrial 63 = .ok (.iadd, 1) := by decide +kernel
theorem dX11_giveInTrial_64 : decode cX11_giveInTrial 64 = .ok (.iastore, 1) := by decide +kernel
theorem dX11_giveInTrial_65 : decode cX11_giveInTrial 65 = .ok (.iinc 4 1, 3) := by decide +kernel
theorem dX11_giveInTrial_68 : decode cX11_giveInTrial 68 = .ok (.goto (-42), 3) := by decide +kernel
theorem dX11_giveInTrial_71 : decode cX11_giveInTrial 71 = .ok (.aload_n 0, 1) := by decide +kernel
theorem dX11_giveInTrial_72 : decode cX11_giveInTrial 72 = .ok (.getfield 32, 3) := by decide +kernel
theorem dX11_giveInTrial_75 : decode cX11_giveInTrial 75 = .ok (.invokevirtual 116, 3) := by decide +kernel
theorem dX11_giveInTrial_78 : decode cX11_giveInTrial 78 = .ok (.aload_n 0, 1) := by decide +kernel
theorem dX11_giveInTrial_79 : decode cX11_giveInTrial 79 = .ok (.getfield 32, 3) := by decide +kernel
theorem dX11_giveInTrial_82 : decode cX11_giveInTrial 82 = .ok (.invokevirtual 393, 3) := by decide +kernel
theorem dX11_giveInTrial_85 : decode cX11_giveInTrial 85 = .ok (.ireturn, 1) := by decide +kernel
theorem b_X11_giveInTrial_0 {x1 : Int} {x2 : Int} {σ : St} {Q : Res → St → Prop} (h : ((x2 ≠ 0) → (WP mX11_giveInTrial 23 [vR 12 0, vI x1, vI x2, vR 10 1, vU] [] σ Q)) ∧ ((x2 = 0) → (WP mX9_copyFrom 0 [vR 10 1, vR 10 0] [] σ (CT mX11_giveInTrial 23 [vR 12 0, vI x1, vI x2, vR 10 1, vU] [] Q)))) : WP mX11_giveInTrial 0 [vR 12 0, vI x1, vI x2, vU, vU] [] σ Q := by
  refine wp_aload_n dX11_giveInTrial_0 rfl rfl ?_
  refine wp_getR dX11_giveInTrial_1 fl_CustomValley_32 rfl rfl ?_
  refine wp_getR dX11_giveInTrial_4 fl_CustomValley_103 rfl rfl ?_
  refine wp_astore_n dX11_giveInTrial_7 rfl (by decide) rfl rfl ?_
  refine wp_iload_n dX11_giveInTrial_8 rfl rfl ?_
  refine wp_if_ne (tgt := 23) dX11_giveInTrial_9 (by decide) (fun hc => ?_) (fun hc => ?_)
  · replace h := h.1 hc
    exact h
  · replace h := h.2 hc
    refine wp_aload_n dX11_giveInTrial_12 rfl rfl ?_
    refine wp_aload_n dX11_giveInTrial_13 rfl rfl ?_
    refine wp_getR dX11_giveInTrial_14 fl_CustomValley_28 rfl rfl ?_
    refine wp_getR dX11_giveInTrial_17 fl_CustomValley_103 rfl rfl ?_
    refine wp_invV (N := mX9_copyFrom) [vR 10 0] dX11_giveInTrial_20 ml_CustomValley_110 mvX9_copyFrom rfl rfl rfl rfl rfl (Nat.le_of_ble_eq_true rfl) (Nat.le_of_ble_eq_true rfl) (by decide) (by decide) (by decide) ?_
    exact h
theorem b_X11_giveInTrial_23 {x1 : Int} {x2 : Int} {σ : St} {Q : Res → St → Prop} (h : WP mX11_giveInTrial 26 [vR 12 0, vI x1, vI x2, vR 10 1, vI 0] [] σ Q) : WP mX11_giveInTrial 23 [vR 12 0, vI x1, vI x2, vR 10 1, vU] [] σ Q := by
  refine wp_iconst dX11_giveInTrial_23 rfl ?_
  refine wp_istore dX11_giveInTrial_24 (by decide) rfl rfl ?_
  exact h
theorem b_X11_giveInTrial_26 {x1 : Int} {x2 : Int} {x4 : Int} {σ : St} {Q : Res → St → Prop} (h : (((σ 10 1 1) ≤ x4) → (WP mX1_change 0 [vR 2 1] [] σ (CT mX11_giveInTrial 78 [vR 12 0, vU, vU, vU, vU] [] Q))) ∧ ((x4 < (σ 10 1 1)) → ((in32 (x1 * 4)) ∧ ((in32 ((x1 * 4) + x4)) ∧ ((in32 (x1 * 4)) ∧ ((in32 ((x1 * 4) + x4)) ∧ ((0 ≤ (x1 * 4) + x4 ∧ ((x1 * 4) + x4) < 16) ∧ ((in32 ((σ 54 0 (((x1 * 4) + x4).toNat)) + x2)) ∧ ((0 ≤ (x1 * 4) + x4 ∧ ((x1 * 4) + x4) < 16) ∧ ((in32 (x4 + 1)) ∧ (WP mX11_giveInTrial 26 [vR 12 0, vI x1, vI x2, vR 10 1, vI (x4 + 1)] [] (up σ 54 1 (((x1 * 4) + x4).toNat) ((σ 54 0 (((x1 * 4) + x4).toNat)) + x2)) Q))))))))))) : WP mX11_giveInTrial 26 [vR 12 0, vI x1, vI x2, vR 10 1, vI x4] [] σ Q := by
  refine wp_iload dX11_giveInTrial_26 rfl ?_
  refine wp_aload_n dX11_giveInTrial_28 rfl rfl ?_
  refine wp_getI dX11_giveInTrial_29 fl_CustomValley_131 rfl rfl rfl ?_
  refine wp_icmp_ge (tgt := 71) dX11_giveInTrial_32 (by decide) (fun hc => ?_) (fun hc => ?_)
  · replace h := h.1 hc
    refine wp_aload_n dX11_giveInTrial_71 rfl rfl ?_
    refine wp_getR dX11_giveInTrial_72 fl_CustomValley_32 rfl rfl ?_
    refine wp_invV (N := mX1_change) [] dX11_giveInTrial_75 ml_CustomValley_116 mvX1_change rfl rfl rfl rfl rfl (Nat.le_of_ble_eq_true rfl) (Nat.le_of_ble_eq_true rfl) (by decide) (by decide) (by decide) ?_
    exact WP.mono h (ct_drop (lle_c (Or.inl rfl) (lle_c (Or.inr rfl) (lle_c (Or.inr rfl) (lle_c (Or.inr rfl) (lle_c (Or.inr rfl) lle_n))))))
  · replace h := h.2 hc
    refine wp_aload_n dX11_giveInTrial_35 rfl rfl ?_
    refine wp_getR dX11_giveInTrial_36 fl_CustomValley_375 rfl rfl ?_
    refine wp_iload_n dX11_giveInTrial_39 rfl rfl ?_
    refine wp_iconst dX11_giveInTrial_40 rfl ?_
    have s8 := h.1
    replace h := h.2
    refine wp_imul dX11_giveInTrial_41 ?_ (h1 := s8.1) (h2 := s8.2)
    refine wp_iload dX11_giveInTrial_42 rfl ?_
    have s7 := h.1
    replace h := h.2
    refine wp_iadd dX11_giveInTrial_44 ?_ (h1 := s7.1) (h2 := s7.2)
    refine wp_aload_n dX11_giveInTrial_45 rfl rfl ?_
    refine wp_getR dX11_giveInTrial_46 fl_CustomValley_28 rfl rfl ?_
    refine wp_getR dX11_giveInTrial_49 fl_CustomValley_103 rfl rfl ?_
    refine wp_getR dX11_giveInTrial_52 fl_CustomValley_375 rfl rfl ?_
    refine wp_iload_n dX11_giveInTrial_55 rfl rfl ?_
    refine wp_iconst dX11_giveInTrial_56 rfl ?_
    have s6 := h.1
    replace h := h.2
    refine wp_imul dX11_giveInTrial_57 ?_ (h1 := s6.1) (h2 := s6.2)
    refine wp_iload dX11_giveInTrial_58 rfl ?_
    have s5 := h.1
    replace h := h.2
    refine wp_iadd dX11_giveInTrial_60 ?_ (h1 := s5.1) (h2 := s5.2)
    have s4 := h.1
    replace h := h.2
    refine wp_iaload dX11_giveInTrial_61 rfl rfl s4.1 s4.2 ?_
    refine wp_iload_n dX11_giveInTrial_62 rfl rfl ?_
    have s3 := h.1
    replace h := h.2
    refine wp_iadd dX11_giveInTrial_63 ?_ (h1 := s3.1) (h2 := s3.2)
    have s2 := h.1
    replace h := h.2
    refine wp_iastore dX11_giveInTrial_64 rfl rfl s2.1 s2.2 ?_
    have s1 := h.1
    replace h := h.2
    refine wp_iinc dX11_giveInTrial_65 rfl (by decide) rfl rfl ?_ (h1 := s1.1) (h2 := s1.2)
    refine wp_goto (tgt := 26) dX11_giveInTrial_68 (by decide) ?_
    exact h
theorem b_X11_giveInTrial_78  {σ : St} {Q : Res → St → Prop} (h : WP mX1_reply 0 [vR 2 1] [] σ (CT mX11_giveInTrial 85 [vU, vU, vU, vU, vU] [] Q)) : WP mX11_giveInTrial 78 [vR 12 0, vU, vU, vU, vU] [] σ Q := by
  refine wp_aload_n dX11_giveInTrial_78 rfl rfl ?_
  refine wp_getR dX11_giveInTrial_79 fl_CustomValley_32 rfl rfl ?_
  refine wp_invV (N := mX1_reply) [] dX11_giveInTrial_82 ml_CustomValley_393 mvX1_reply rfl rfl rfl rfl rfl (Nat.le_of_ble_eq_true rfl) (Nat.le_of_ble_eq_true rfl) (by decide) (by decide) (by decide) ?_
  exact WP.mono h (ct_drop (lle_c (Or.inr rfl) (lle_c (Or.inl rfl) (lle_c (Or.inl rfl) (lle_c (Or.inl rfl) (lle_c (Or.inl rfl) lle_n))))))
theorem b_X11_giveInTrial_85 {t0 : Int} {σ : St} {Q : Res → St → Prop} (h : (t0 = 0 ∨ t0 = 1) ∧ Q (.inl (some (vI t0))) σ) : WP mX11_giveInTrial 85 [vU, vU, vU, vU, vU] [vI t0] σ Q := by
  have s1 := h.1
  replace h := h.2
  exact wp_zret dX11_giveInTrial_85 rfl h s1
theorem dX11_slipsSeen_0 : decode cX11_slipsSeen 0 = .ok (.aload_n 0, 1) := by decide +kernel
theorem dX11_slipsSeen_1 : decode cX11_slipsSeen 1 = .ok (.getfield 28, 3) := by decide +kernel
theorem dX11_slipsSeen_4 : decode cX11_slipsSeen 4 = .ok (.astore_n 3, 1) := by decide +kernel
theorem dX11_slipsSeen_5 : decode cX11_slipsSeen 5 = .ok (.iload_n 2, 1) := by decide +kernel
theorem dX11_slipsSeen_6 : decode cX11_slipsSeen 6 = .ok (.aload_n 0, 1) := by decide +kernel
theorem dX11_slipsSeen_7 : decode cX11_slipsSeen 7 = .ok (.getfield 28, 3) := by decide +kernel
theorem dX11_slipsSeen_10 : decode cX11_slipsSeen 10 = .ok (.getfield 103, 3) := by decide +kernel
theorem dX11_slipsSeen_13 : decode cX11_slipsSeen 13 = .ok (.getfield 137, 3) := by decide +kernel
theorem dX11_slipsSeen_16 : decode cX11_slipsSeen 16 = .ok (.if_icmp .eq 43, 3) := by decide +kernel
theorem dX11_slipsSeen_19 : decode cX11_slipsSeen 19 = .ok (.aload_n 0, 1) := by decide +kernel
theorem dX11_slipsSeen_20 : decode cX11_slipsSeen 20 = .ok (.getfield 32, 3) := by decide +kernel
theorem dX11_slipsSeen_23 : decode cX11_slipsSeen 23 = .ok (.getfield 103, 3) := by decide +kernel
theorem dX11_slipsSeen_26 : decode cX11_slipsSeen 26 = .ok (.aload_n 0, 1) := by decide +kernel
theorem dX11_slipsSeen_27 : decode cX11_slipsSeen 27 = .ok (.getfield 28, 3) := by decide +kernel
theorem dX11_slipsSeen_30 : decode cX11_slipsSeen 30 = .ok (.getfield 103, 3) := by decide +kernel
theorem dX11_slipsSeen_33 : decode cX11_slipsSeen 33 = .ok (.invokevirtual 110, 3) := by decide +kernel
theorem dX11_slipsSeen_36 : decode cX11_slipsSeen 36 = .ok (.aload_n 0, 1) := by decide +kernel
theorem dX11_slipsSeen_37 : decode cX11_slipsSeen 37 = .ok (.getfield 32, 3) := by decide +kernel
theorem dX11_slipsSeen_40 : decode cX11_slipsSeen 40 = .ok (.getfield 103, 3) := by decide +kernel
theorem dX11_slipsSeen_43 : decode cX11_slipsSeen 43 = .ok (.iload_n 2, 1) := by decide +kernel
theorem dX11_slipsSeen_44 : decode cX11_slipsSeen 44 = .ok (.putfield 137, 3) := by decide +kernel
theorem dX11_slipsSeen_47 : decode cX11_slipsSeen 47 = .ok (.aload_n 0, 1) := by decide +kernel
theorem dX11_slipsSeen_48 : decode cX11_slipsSeen 48 = .ok (.getfield 32, 3) := by decide +kernel
theorem dX11_slipsSeen_51 : decode cX11_slipsSeen 51 = .ok (.invokevirtual 116, 3) := by decide +kernel
theorem dX11_slipsSeen_54 : decode cX11_slipsSeen 54 = .ok (.aload_n 0, 1) := by decide +kernel
theorem dX11_slipsSeen_55 : decode cX11_slipsSeen 55 = .ok (.getfield 32, 3) := by decide +kernel
theorem dX11_slipsSeen_58 : decode cX11_slipsSeen 58 = .ok (.astore_n 3, 1) := by decide +kernel
theorem dX11_slipsSeen_59 : decode cX11_slipsSeen 59 = .ok (.aload_n 3, 1) := by decide +kernel
theorem dX11_slipsSeen_60 : decode cX11_slipsSeen 60 = .ok (.invokevirtual 393, 3) := by decide +kernel
theorem dX11_slipsSeen_63 : decode cX11_slipsSeen 63 = .ok (.pop, 1) := by decide +kernel
theorem dX11_slipsSeen_64 : decode cX11_slipsSeen 64 = .ok (.iconst 0, 1) := by decide +kernel
theorem dX11_slipsSeen_65 : decode cX11_slipsSeen 65 = .ok (.istore 4, 2) := by decide +kernel
theorem dX11_slipsSeen_67 : decode cX11_slipsSeen 67 = .ok (.iconst (-1), 1) := by decide +kernel
theorem dX11_slipsSeen_68 : decode cX11_slipsSeen 68 = .ok (.istore 5, 2) := by decide +kernel
theorem dX11_slipsSeen_70 : decode cX11_slipsSeen 70 = .ok (.iconst 0, 1) := by decide +kernel
theorem dX11_slipsSeen_71 : decode cX11_slipsSeen 71 = .ok (.istore 6, 2) := by decide +kernel
theorem dX11_slipsSeen_73 : decode cX11_slipsSeen 73 = .ok (.iload 6, 2) := by decide +kernel
theorem dX11_slipsSeen_75 : decode cX11_slipsSeen 75 = .ok (.aload_n 0, 1) := by decide +kernel
theorem dX11_slipsSeen_76 : decode cX11_slipsSeen 76 = .ok (.getfield 72, 3) := by decide +kernel
theorem dX11_slipsSeen_79 : decode cX11_slipsSeen 79 = .ok (.getfield 344, 3) := by decide +kernel
theorem dX11_slipsSeen_82 : decode cX11_slipsSeen 82 = .ok (.if_icmp .ge 65, 3) := by decide +kernel
theorem dX11_slipsSeen_85 : decode cX11_slipsSeen 85 = .ok (.aload_n 0, 1) := by decide +kernel
theorem dX11_slipsSeen_86 : decode cX11_slipsSeen 86 = .ok (.getfield 72, 3) := by decide +kernel
theorem dX11_slipsSeen_89 : decode cX11_slipsSeen 89 = .ok (.iload_n 1, 1) := by decide +kernel
theorem dX11_slipsSeen_90 : decode cX11_slipsSeen 90 = .ok (.iload 6, 2) := by decide +kernel
theorem dX11_slipsSeen_92 : decode cX11_slipsSeen 92 = .ok (.invokevirtual 397, 3) := by decide +kernel
theorem dX11_slipsSeen_95 : decode cX11_slipsSeen 95 = .ok (.istore 7, 2) := by decide +kernel
theorem dX11_slipsSeen_97 : decode cX11_slipsSeen 97 = .ok (.iload 7, 2) := by decide +kernel
theorem dX11_slipsSeen_99 : decode cX11_slipsSeen 99 = .ok (.iconst (-1), 1) := by decide +kernel
theorem dX11_slipsSeen_100 : decode cX11_slipsSeen 100 = .ok (.if_icmp .eq 26, 3) := by decide +kernel
theorem dX11_slipsSeen_103 : decode cX11_slipsSeen 103 = .ok (.iload 5, 2) := by decide +kernel
theorem dX11_slipsSeen_105 : decode cX11_slipsSeen 105 = .ok (.iconst (-1), 1) := by decide +kernel
theorem dX11_slipsSeen_106 : decode cX11_slipsSeen 106 = .ok (.if_icmp .eq 20, 3) := by decide +kernel
theorem dX11_slipsSeen_109 : decode cX11_slipsSeen 109 = .ok (.iload 4, 2) := by decide +kernel
theorem dX11_slipsSeen_111 : decode cX11_slipsSeen 111 = .ok (.aload_n 0, 1) := by decide +kernel
theorem dX11_slipsSeen_112 : decode cX11_slipsSeen 112 = .ok (.getfield 38, 3) := by decide +kernel
theorem dX11_slipsSeen_115 : decode cX11_slipsSeen 115 = .ok (.aload_n 3, 1) := by decide +kernel
theorem dX11_slipsSeen_116 : decode cX11_slipsSeen 116 = .ok (.iload 7, 2) := by decide +kernel
theorem dX11_slipsSeen_118 : decode cX11_slipsSeen 118 = .ok (.iload 5, 2) := by decide +kernel
theorem dX11_slipsSeen_120 : decode cX11_slipsSeen 120 = .ok (.invokevirtual 224, 3) := by decide +kernel
theorem dX11_slipsSeen_123 : decode cX11_slipsSeen 123 = .ok (.iadd, 1) := by decide +kernel
theorem dX11_slipsSeen_124 : decode cX11_slipsSeen 124 = .ok (.istore 4, 2) := by decide +kernel
theorem dX11_slipsSeen_126 : decode cX11_slipsSeen 126 = .ok (.iload 7, 2) := by decide +kernel
theorem dX11_slipsSeen_128 : decode cX11_slipsSeen 128 = .ok (.iconst (-1), 1) := by decide +kernel
theorem dX11_slipsSeen_129 : decode cX11_slipsSeen 129 = .ok (.if_icmp .ne 8, 3) := by decide +kernel
theorem dX11_slipsSeen_132 : decode cX11_slipsSeen 132 = .ok (.iload 5, 2) := by decide +kernel
theorem dX11_slipsSeen_134 : decode cX11_slipsSeen 134 = .ok (.goto 5, 3) := by decide +kernel
theorem dX11_slipsSeen_137 : decode cX11_slipsSeen 137 = .ok (.iload 7, 2) := by decide +kernel
theorem dX11_slipsSeen_139 : decode cX11_slipsSeen 139 = .ok (.istore 5, 2) := by decide +kernel
theorem dX11_slipsSeen_141 : decode cX11_slipsSeen 141 = .ok (.iinc 6 1, 3) := by decide +kernel
theorem dX11_slipsSeen_144 : decode cX11_slipsSeen 144 = .ok (.goto (-71), 3) := by decide +kernel
theorem dX11_slipsSeen_147 : decode cX11_slipsSeen 147 = .ok (.iload 4, 2) := by decide +kernel
theorem dX11_slipsSeen_149 : decode cX11_slipsSeen 149 = .ok (.ldc 228, 2) := by decide +kernel
theorem dX11_slipsSeen_151 : decode cX11_slipsSeen 151 = .ok (.invokestatic 400, 3) := by decide +kernel
theorem dX11_slipsSeen_154 : decode cX11_slipsSeen 154 = .ok (.ireturn, 1) := by decide +kernel
theorem b_X11_slipsSeen_0 {x1 : Int} {x2 : Int} {σ : St} {Q : Res → St → Prop} (h : ((x2 = (σ 10 0 2)) → (WP mX1_reply 0 [vR 2 0] [] σ (CT mX11_slipsSeen 63 [vR 12 0, vI x1, vU, vR 2 0, vU, vU, vU, vU] [] Q))) ∧ ((x2 ≠ (σ 10 0 2)) → (WP mX9_copyFrom 0 [vR 10 1, vR 10 0] [] σ (CT mX11_slipsSeen 36 [vR 12 0, vI x1, vI x2, vU, vU, vU, vU, vU] [] Q)))) : WP mX11_slipsSeen 0 [vR 12 0, vI x1, vI x2, vU, vU, vU, vU, vU] [] σ Q := by
  refine wp_aload_n dX11_slipsSeen_0 rfl rfl ?_
  refine wp_getR dX11_slipsSeen_1 fl_CustomValley_28 rfl rfl ?_
  refine wp_astore_n dX11_slipsSeen_4 rfl (by decide) rfl rfl ?_
  refine wp_iload_n dX11_slipsSeen_5 rfl rfl ?_
  refine wp_aload_n dX11_slipsSeen_6 rfl rfl ?_
  refine wp_getR dX11_slipsSeen_7 fl_CustomValley_28 rfl rfl ?_
  refine wp_getR dX11_slipsSeen_10 fl_CustomValley_103 rfl rfl ?_
  refine wp_getI dX11_slipsSeen_13 fl_CustomValley_137 rfl rfl rfl ?_
  refine wp_icmp_eq (tgt := 59) dX11_slipsSeen_16 (by decide) (fun hc => ?_) (fun hc => ?_)
  · replace h := h.1 hc
    refine wp_aload_n dX11_slipsSeen_59 rfl rfl ?_
    refine wp_invV (N := mX1_reply) [] dX11_slipsSeen_60 ml_CustomValley_393 mvX1_reply rfl rfl rfl rfl rfl (Nat.le_of_ble_eq_true rfl) (Nat.le_of_ble_eq_true rfl) (by decide) (by decide) (by decide) ?_
    exact WP.mono h (ct_drop (lle_c (Or.inl rfl) (lle_c (Or.inl rfl) (lle_c (Or.inr rfl) (lle_c (Or.inl rfl) (lle_c (Or.inl rfl) (lle_c (Or.inl rfl) (lle_c (Or.inl rfl) (lle_c (Or.inl rfl) lle_n)))))))))
  · replace h := h.2 hc
    refine wp_aload_n dX11_slipsSeen_19 rfl rfl ?_
    refine wp_getR dX11_slipsSeen_20 fl_CustomValley_32 rfl rfl ?_
    refine wp_getR dX11_slipsSeen_23 fl_CustomValley_103 rfl rfl ?_
    refine wp_aload_n dX11_slipsSeen_26 rfl rfl ?_
    refine wp_getR dX11_slipsSeen_27 fl_CustomValley_28 rfl rfl ?_
    refine wp_getR dX11_slipsSeen_30 fl_CustomValley_103 rfl rfl ?_
    refine wp_invV (N := mX9_copyFrom) [vR 10 0] dX11_slipsSeen_33 ml_CustomValley_110 mvX9_copyFrom rfl rfl rfl rfl rfl (Nat.le_of_ble_eq_true rfl) (Nat.le_of_ble_eq_true rfl) (by decide) (by decide) (by decide) ?_
    exact WP.mono h (ct_drop (lle_c (Or.inl rfl) (lle_c (Or.inl rfl) (lle_c (Or.inl rfl) (lle_c (Or.inr rfl) (lle_c (Or.inl rfl) (lle_c (Or.inl rfl) (lle_c (Or.inl rfl) (lle_c (Or.inl rfl) lle_n)))))))))
theorem b_X11_slipsSeen_36 {x1 : Int} {x2 : Int} {σ : St} {Q : Res → St → Prop} (h : WP mX1_change 0 [vR 2 1] [] (up σ 10 1 2 x2) (CT mX11_slipsSeen 54 [vR 12 0, vI x1, vU, vU, vU, vU, vU, vU] [] Q)) : WP mX11_slipsSeen 36 [vR 12 0, vI x1, vI x2, vU, vU, vU, vU, vU] [] σ Q := by
  refine wp_aload_n dX11_slipsSeen_36 rfl rfl ?_
  refine wp_getR dX11_slipsSeen_37 fl_CustomValley_32 rfl rfl ?_
  refine wp_getR dX11_slipsSeen_40 fl_CustomValley_103 rfl rfl ?_
  refine wp_iload_n dX11_slipsSeen_43 rfl rfl ?_
  refine wp_putI dX11_slipsSeen_44 fp_CustomValley_137 rfl rfl rfl ?_
  refine wp_aload_n dX11_slipsSeen_47 rfl rfl ?_
  refine wp_getR dX11_slipsSeen_48 fl_CustomValley_32 rfl rfl ?_
  refine wp_invV (N := mX1_change) [] dX11_slipsSeen_51 ml_CustomValley_116 mvX1_change rfl rfl rfl rfl rfl (Nat.le_of_ble_eq_true rfl) (Nat.le_of_ble_eq_true rfl) (by decide) (by decide) (by decide) ?_
  exact WP.mono h (ct_drop (lle_c (Or.inl rfl) (lle_c (Or.inl rfl) (lle_c (Or.inr rfl) (lle_c (Or.inl rfl) (lle_c (Or.inl rfl) (lle_c (Or.inl rfl) (lle_c (Or.inl rfl) (lle_c (Or.inl rfl) lle_n)))))))))
theorem b_X11_slipsSeen_54 {x1 : Int} {σ : St} {Q : Res → St → Prop} (h : WP mX1_reply 0 [vR 2 1] [] σ (CT mX11_slipsSeen 63 [vR 12 0, vI x1, vU, vR 2 1, vU, vU, vU, vU] [] Q)) : WP mX11_slipsSeen 54 [vR 12 0, vI x1, vU, vU, vU, vU, vU, vU] [] σ Q := by
  refine wp_aload_n dX11_slipsSeen_54 rfl rfl ?_
  refine wp_getR dX11_slipsSeen_55 fl_CustomValley_32 rfl rfl ?_
  refine wp_astore_n dX11_slipsSeen_58 rfl (by decide) rfl rfl ?_
  refine wp_aload_n dX11_slipsSeen_59 rfl rfl ?_
  refine wp_invV (N := mX1_reply) [] dX11_slipsSeen_60 ml_CustomValley_393 mvX1_reply rfl rfl rfl rfl rfl (Nat.le_of_ble_eq_true rfl) (Nat.le_of_ble_eq_true rfl) (by decide) (by decide) (by decide) ?_
  exact h
theorem b_X11_slipsSeen_63 {x1 : Int} {i3 : Nat} {t0 : Int} {σ : St} {Q : Res → St → Prop} (h : WP mX11_slipsSeen 73 [vR 12 0, vI x1, vU, vR 2 i3, vI 0, vI (-1), vI 0, vU] [] σ Q) : WP mX11_slipsSeen 63 [vR 12 0, vI x1, vU, vR 2 i3, vU, vU, vU, vU] [vI t0] σ Q := by
  refine wp_pop dX11_slipsSeen_63 ?_
  refine wp_iconst dX11_slipsSeen_64 rfl ?_
  refine wp_istore dX11_slipsSeen_65 (by decide) rfl rfl ?_
  refine wp_iconst dX11_slipsSeen_67 rfl ?_
  refine wp_istore dX11_slipsSeen_68 (by decide) rfl rfl ?_
  refine wp_iconst dX11_slipsSeen_70 rfl ?_
  refine wp_istore dX11_slipsSeen_71 (by decide) rfl rfl ?_
  exact h
theorem b_X11_slipsSeen_73 {x1 : Int} {x4 : Int} {x5 : Int} {x6 : Int} {i3 : Nat} {σ : St} {Q : Res → St → Prop} (h : (((σ 7 0 0) ≤ x6) → (Q (.inl (some (vI (min x4 1000000)))) σ)) ∧ ((x6 < (σ 7 0 0)) → (WP mX6_knownAt 0 [vR 7 0, vI x1, vI x6, vU, vU] [] σ (CT mX11_slipsSeen 95 [vR 12 0, vI x1, vU, vR 2 i3, vI x4, vI x5, vI x6, vU] [] Q)))) : WP mX11_slipsSeen 73 [vR 12 0, vI x1, vU, vR 2 i3, vI x4, vI x5, vI x6, vU] [] σ Q := by
  refine wp_iload dX11_slipsSeen_73 rfl ?_
  refine wp_aload_n dX11_slipsSeen_75 rfl rfl ?_
  refine wp_getR dX11_slipsSeen_76 fl_CustomValley_72 rfl rfl ?_
  refine wp_getI dX11_slipsSeen_79 fl_CustomValley_344 rfl rfl rfl ?_
  refine wp_icmp_ge (tgt := 147) dX11_slipsSeen_82 (by decide) (fun hc => ?_) (fun hc => ?_)
  · replace h := h.1 hc
    refine wp_iload dX11_slipsSeen_147 rfl ?_
    refine wp_ldc (n := 1000000) dX11_slipsSeen_149 ck_CustomValley_228 rfl ?_
    refine wp_mmin dX11_slipsSeen_151 mm_CustomValley_400 (by decide) (Nat.le_of_ble_eq_true rfl) ?_
    exact wp_iret dX11_slipsSeen_154 rfl h
  · replace h := h.2 hc
    refine wp_aload_n dX11_slipsSeen_85 rfl rfl ?_
    refine wp_getR dX11_slipsSeen_86 fl_CustomValley_72 rfl rfl ?_
    refine wp_iload_n dX11_slipsSeen_89 rfl rfl ?_
    refine wp_iload dX11_slipsSeen_90 rfl ?_
    refine wp_invV (N := mX6_knownAt) [vI x1, vI x6] dX11_slipsSeen_92 ml_CustomValley_397 mvX6_knownAt rfl rfl rfl rfl rfl (Nat.le_of_ble_eq_true rfl) (Nat.le_of_ble_eq_true rfl) (by decide) (by decide) (by decide) ?_
    exact h
theorem b_X11_slipsSeen_95 {x1 : Int} {x4 : Int} {x5 : Int} {x6 : Int} {t0 : Int} {i3 : Nat} {σ : St} {Q : Res → St → Prop} (h : ((t0 = (-1)) → (((t0 ≠ (-1)) → ((in32 (x6 + 1)) ∧ (WP mX11_slipsSeen 73 [vR 12 0, vI x1, vU, vR 2 i3, vI x4, vI t0, vI (x6 + 1), vU] [] σ Q))) ∧ ((t0 = (-1)) → ((in32 (x6 + 1)) ∧ (WP mX11_slipsSeen 73 [vR 12 0, vI x1, vU, vR 2 i3, vI x4, vI x5, vI (x6 + 1), vU] [] σ Q))))) ∧ ((t0 ≠ (-1)) → (((x5 = (-1)) → (((t0 ≠ (-1)) → ((in32 (x6 + 1)) ∧ (WP mX11_slipsSeen 73 [vR 12 0, vI x1, vU, vR 2 i3, vI x4, vI t0, vI (x6 + 1), vU] [] σ Q))) ∧ ((t0 = (-1)) → ((in32 (x6 + 1)) ∧ (WP mX11_slipsSeen 73 [vR 12 0, vI x1, vU, vR 2 i3, vI x4, vI x5, vI (x6 + 1), vU] [] σ Q))))) ∧ ((x5 ≠ (-1)) → (WP mX5_toState 0 [vR 6 0, vR 2 i3, vI t0, vI x5, vU] [] σ (CT mX11_slipsSeen 123 [vR 12 0, vI x1, vU, vR 2 i3, vU, vI x5, vI x6, vI t0] [vI x4] Q)))))) : WP mX11_slipsSeen 95 [vR 12 0, vI x1, vU, vR 2 i3, vI x4, vI x5, vI x6, vU] [vI t0] σ Q := by
  refine wp_istore dX11_slipsSeen_95 (by decide) rfl rfl ?_
  refine wp_iload dX11_slipsSeen_97 rfl ?_
  refine wp_iconst dX11_slipsSeen_99 rfl ?_
  refine wp_icmp_eq (tgt := 126) dX11_slipsSeen_100 (by decide) (fun hc => ?_) (fun hc => ?_)
  · replace h := h.1 hc
    refine wp_iload dX11_slipsSeen_126 rfl ?_
    refine wp_iconst dX11_slipsSeen_128 rfl ?_
    refine wp_icmp_ne (tgt := 137) dX11_slipsSeen_129 (by decide) (fun hc => ?_) (fun hc => ?_)
    · replace h := h.1 hc
      refine wp_iload dX11_slipsSeen_137 rfl ?_
      refine wp_istore dX11_slipsSeen_139 (by decide) rfl rfl ?_
      have s1 := h.1
      replace h := h.2
      refine wp_iinc dX11_slipsSeen_141 rfl (by decide) rfl rfl ?_ (h1 := s1.1) (h2 := s1.2)
      refine wp_goto (tgt := 73) dX11_slipsSeen_144 (by decide) ?_
      exact wp_drop (als' := [vR 12 0, vI x1, vU, vR 2 i3, vI x4, vI t0, vI (x6 + 1), vU]) (lle_c (Or.inl rfl) (lle_c (Or.inl rfl) (lle_c (Or.inl rfl) (lle_c (Or.inl rfl) (lle_c (Or.inl rfl) (lle_c (Or.inl rfl) (lle_c (Or.inl rfl) (lle_c (Or.inr rfl) lle_n)))))))) h
    · replace h := h.2 hc
      refine wp_iload dX11_slipsSeen_132 rfl ?_
      refine wp_goto (tgt := 139) dX11_slipsSeen_134 (by decide) ?_
      refine wp_istore dX11_slipsSeen_139 (by decide) rfl rfl ?_
      have s2 := h.1
      replace h := h.2
      refine wp_iinc dX11_slipsSeen_141 rfl (by decide) rfl rfl ?_ (h1 := s2.1) (h2 := s2.2)
      refine wp_goto (tgt := 73) dX11_slipsSeen_144 (by decide) ?_
      exact wp_drop (als' := [vR 12 0, vI x1, vU, vR 2 i3, vI x4, vI x5, vI (x6 + 1), vU]) (lle_c (Or.inl rfl) (lle_c (Or.inl rfl) (lle_c (Or.inl rfl) (lle_c (Or.inl rfl) (lle_c (Or.inl rfl) (lle_c (Or.inl rfl) (lle_c (Or.inl rfl) (lle_c (Or.inr rfl) lle_n)))))))) h
  · replace h := h.2 hc
    refine wp_iload dX11_slipsSeen_103 rfl ?_
    refine wp_iconst dX11_slipsSeen_105 rfl ?_
    refine wp_icmp_eq (tgt := 126) dX11_slipsSeen_106 (by decide) (fun hc => ?_) (fun hc => ?_)
    · replace h := h.1 hc
      refine wp_iload dX11_slipsSeen_126 rfl ?_
      refine wp_iconst dX11_slipsSeen_128 rfl ?_
      refine wp_icmp_ne (tgt := 137) dX11_slipsSeen_129 (by decide) (fun hc => ?_) (fun hc => ?_)
      · replace h := h.1 hc
        refine wp_iload dX11_slipsSeen_137 rfl ?_
        refine wp_istore dX11_slipsSeen_139 (by decide) rfl rfl ?_
        have s3 := h.1
        replace h := h.2
        refine wp_iinc dX11_slipsSeen_141 rfl (by decide) rfl rfl ?_ (h1 := s3.1) (h2 := s3.2)
        refine wp_goto (tgt := 73) dX11_slipsSeen_144 (by decide) ?_
        exact wp_drop (als' := [vR 12 0, vI x1, vU, vR 2 i3, vI x4, vI t0, vI (x6 + 1), vU]) (lle_c (Or.inl rfl) (lle_c (Or.inl rfl) (lle_c (Or.inl rfl) (lle_c (Or.inl rfl) (lle_c (Or.inl rfl) (lle_c (Or.inl rfl) (lle_c (Or.inl rfl) (lle_c (Or.inr rfl) lle_n)))))))) h
      · replace h := h.2 hc
        refine wp_iload dX11_slipsSeen_132 rfl ?_
        refine wp_goto (tgt := 139) dX11_slipsSeen_134 (by decide) ?_
        refine wp_istore dX11_slipsSeen_139 (by decide) rfl rfl ?_
        have s4 := h.1
        replace h := h.2
        refine wp_iinc dX11_slipsSeen_141 rfl (by decide) rfl rfl ?_ (h1 := s4.1) (h2 := s4.2)
        refine wp_goto (tgt := 73) dX11_slipsSeen_144 (by decide) ?_
        exact wp_drop (als' := [vR 12 0, vI x1, vU, vR 2 i3, vI x4, vI x5, vI (x6 + 1), vU]) (lle_c (Or.inl rfl) (lle_c (Or.inl rfl) (lle_c (Or.inl rfl) (lle_c (Or.inl rfl) (lle_c (Or.inl rfl) (lle_c (Or.inl rfl) (lle_c (Or.inl rfl) (lle_c (Or.inr rfl) lle_n)))))))) h
    · replace h := h.2 hc
      refine wp_iload dX11_slipsSeen_109 rfl ?_
      refine wp_aload_n dX11_slipsSeen_111 rfl rfl ?_
      refine wp_getR dX11_slipsSeen_112 fl_CustomValley_38 rfl rfl ?_
      refine wp_aload_n dX11_slipsSeen_115 rfl rfl ?_
      refine wp_iload dX11_slipsSeen_116 rfl ?_
      refine wp_iload dX11_slipsSeen_118 rfl ?_
      refine wp_invV (N := mX5_toState) [vR 2 i3, vI t0, vI x5] dX11_slipsSeen_120 ml_CustomValley_224 mvX5_toState rfl rfl rfl rfl rfl (Nat.le_of_ble_eq_true rfl) (Nat.le_of_ble_eq_true rfl) (by decide) (by decide) (by decide) ?_
      exact WP.mono h (ct_drop (lle_c (Or.inl rfl) (lle_c (Or.inl rfl) (lle_c (Or.inl rfl) (lle_c (Or.inl rfl) (lle_c (Or.inr rfl) (lle_c (Or.inl rfl) (lle_c (Or.inl rfl) (lle_c (Or.inl rfl) lle_n)))))))))
theorem b_X11_slipsSeen_123 {x1 : Int} {x5 : Int} {x6 : Int} {x7 : Int} {t0 : Int} {t1 : Int} {i3 : Nat} {σ : St} {Q : Res → St → Prop} (h : (in32 (t1 + t0)) ∧ (((x7 ≠ (-1)) → ((in32 (x6 + 1)) ∧ (WP mX11_slipsSeen 73 [vR 12 0, vI x1, vU, vR 2 i3, vI (t1 + t0), vI x7, vI (x6 + 1), vU] [] σ Q))) ∧ ((x7 = (-1)) → ((in32 (x6 + 1)) ∧ (WP mX11_slipsSeen 73 [vR 12 0, vI x1, vU, vR 2 i3, vI (t1 + t0), vI x5, vI (x6 + 1), vU] [] σ Q))))) : WP mX11_slipsSeen 123 [vR 12 0, vI x1, vU, vR 2 i3, vU, vI x5, vI x6, vI x7] [vI t0, vI t1] σ Q := by
  have s3 := h.1
  replace h := h.2
  refine wp_iadd dX11_slipsSeen_123 ?_ (h1 := s3.1) (h2 := s3.2)
  refine wp_istore dX11_slipsSeen_124 (by decide) rfl rfl ?_
  refine wp_iload dX11_slipsSeen_126 rfl ?_
  refine wp_iconst dX11_slipsSeen_128 rfl ?_
  refine wp_icmp_ne (tgt := 137) dX11_slipsSeen_129 (by decide) (fun hc => ?_) (fun hc => ?_)
  · replace h := h.1 hc
    refine wp_iload dX11_slipsSeen_137 rfl ?_
    refine wp_istore dX11_slipsSeen_139 (by decide) rfl rfl ?_
    have s1 := h.1
    replace h := h.2
    refine wp_iinc dX11_slipsSeen_141 rfl (by decide) rfl rfl ?_ (h1 := s1.1) (h2 := s1.2)
    refine wp_goto (tgt := 73) dX11_slipsSeen_144 (by decide) ?_
    exact wp_drop (als' := [vR 12 0, vI x1, vU, vR 2 i3, vI (t1 + t0), vI x7, vI (x6 + 1), vU]) (lle_c (Or.inl rfl) (lle_c (Or.inl rfl) (lle_c (Or.inl rfl) (lle_c (Or.inl rfl) (lle_c (Or.inl rfl) (lle_c (Or.inl rfl) (lle_c (Or.inl rfl) (lle_c (Or.inr rfl) lle_n)))))))) h
  · replace h := h.2 hc
    refine wp_iload dX11_slipsSeen_132 rfl ?_
    refine wp_goto (tgt := 139) dX11_slipsSeen_134 (by decide) ?_
    refine wp_istore dX11_slipsSeen_139 (by decide) rfl rfl ?_
    have s2 := h.1
    replace h := h.2
    refine wp_iinc dX11_slipsSeen_141 rfl (by decide) rfl rfl ?_ (h1 := s2.1) (h2 := s2.2)
    refine wp_goto (tgt := 73) dX11_slipsSeen_144 (by decide) ?_
    exact wp_drop (als' := [vR 12 0, vI x1, vU, vR 2 i3, vI (t1 + t0), vI x5, vI (x6 + 1), vU]) (lle_c (Or.inl rfl) (lle_c (Or.inl rfl) (lle_c (Or.inl rfl) (lle_c (Or.inl rfl) (lle_c (Or.inl rfl) (lle_c (Or.inl rfl) (lle_c (Or.inl rfl) (lle_c (Or.inr rfl) lle_n)))))))) h
theorem dX11_winnersOf_0 : decode cX11_winnersOf 0 = .ok (.aload_n 1, 1) := by decide +kernel
theorem dX11_winnersOf_1 : decode cX11_winnersOf 1 = .ok (.aload_n 0, 1) := by decide +kernel
theorem dX11_winnersOf_2 : decode cX11_winnersOf 2 = .ok (.getfield 38, 3) := by decide +kernel
theorem dX11_winnersOf_5 : decode cX11_winnersOf 5 = .ok (.invokevirtual 240, 3) := by decide +kernel
theorem dX11_winnersOf_8 : decode cX11_winnersOf 8 = .ok (.ldc 228, 2) := by decide +kernel
theorem dX11_winnersOf_10 : decode cX11_winnersOf 10 = .ok (.istore_n 2, 1) := by decide +kernel
theorem dX11_winnersOf_11 : decode cX11_winnersOf 11 = .ok (.iconst 0, 1) := by decide +kernel
theorem dX11_winnersOf_12 : decode cX11_winnersOf 12 = .ok (.istore_n 3, 1) := by decide +kernel
theorem dX11_winnersOf_13 : decode cX11_winnersOf 13 = .ok (.iconst 0, 1) := by decide +kernel
theorem dX11_winnersOf_14 : decode cX11_winnersOf 14 = .ok (.istore 4, 2) := by decide +kernel
theorem dX11_winnersOf_16 : decode cX11_winnersOf 16 = .ok (.iload 4, 2) := by decide +kernel
theorem dX11_winnersOf_18 : decode cX11_winnersOf 18 = .ok (.aload_n 1, 1) := by decide +kernel
theorem dX11_winnersOf_19 : decode cX11_winnersOf 19 = .ok (.getfield 187, 3) := by decide +kernel
theorem dX11_winnersOf_22 : decode cX11_winnersOf 22 = .ok (.getfield 191, 3) := by decide +kernel
theorem dX11_winnersOf_25 : decode cX11_winnersOf 25 = .ok (.if_icmp .ge 52, 3) := by decide +kernel
theorem dX11_winnersOf_28 : decode cX11_winnersOf 28 = .ok (.iload 4, 2) := by decide +kernel
theorem dX11_winnersOf_30 : decode cX11_winnersOf 30 = .ok (.bipush 12, 2) := by decide +kernel
theorem dX11_winnersOf_32 : decode cX11_winnersOf 32 = .ok (.if_icmp .ge 45, 3) := by decide +kernel
theorem dX11_winnersOf_35 : decode cX11_winnersOf 35 = .ok (.aload_n 0, 1) := by decide +kernel
theorem dX11_winnersOf_36 : decode cX11_winnersOf 36 = .ok (.getfield 48, 3) := by decide +kernel
theorem dX11_winnersOf_39 : decode cX11_winnersOf 39 = .ok (.aload_n 1, 1) := by decide +kernel
theorem dX11_winnersOf_40 : decode cX11_winnersOf 40 = .ok (.iload 4, 2) := by decide +kernel
theorem dX11_winnersOf_42 : decode cX11_winnersOf 42 = .ok (.invokevirtual 387, 3) := by decide +kernel
theorem dX11_winnersOf_45 : decode cX11_winnersOf 45 = .ok (.istore 5, 2) := by decide +kernel
theorem dX11_winnersOf_47 : decode cX11_winnersOf 47 = .ok (.iload 5, 2) := by decide +kernel
theorem dX11_winnersOf_49 : decode cX11_winnersOf 49 = .ok (.iload_n 2, 1) := by decide +kernel
theorem dX11_winnersOf_50 : decode cX11_winnersOf 50 = .ok (.if_icmp .ge 8, 3) := by decide +kernel
theorem dX11_winnersOf_53 : decode cX11_winnersOf 53 = .ok (.iload 5, 2) := by decide +kernel
theorem dX11_winnersOf_55 : decode cX11_winnersOf 55 = .ok (.istore_n 2, 1) := by decide +kernel
theorem dX11_winnersOf_56 : decode cX11_winnersOf 56 = .ok (.iconst 0, 1) := by decide +kernel
theorem dX11_winnersOf_57 : decode cX11_winnersOf 57 = .ok (.istore_n 3, 1) := by decide +kernel
theorem dX11_winnersOf_58 : decode cX11_winnersOf 58 = .ok (.iload 5, 2) := by decide +kernel
theorem dX11_winnersOf_60 : decode cX11_winnersOf 60 = .ok (.iload_n 2, 1) := by decide +kernel
theorem dX11_winnersOf_61 : decode cX11_winnersOf 61 = .ok (.if_icmp .ne 10, 3) := by decide +kernel
theorem dX11_winnersOf_64 : decode cX11_winnersOf 64 = .ok (.iload_n 3, 1) := by decide +kernel
theorem dX11_winnersOf_65 : decode cX11_winnersOf 65 = .ok (.iconst 1, 1) := by decide +kernel
theorem dX11_winnersOf_66 : decode cX11_winnersOf 66 = .ok (.iload 4, 2) := by decide +kernel
theorem dX11_winnersOf_68 : decode cX11_winnersOf 68 = .ok (.ishl, 1) := by decide +kernel
theorem dX11_winnersOf_69 : decode cX11_winnersOf 69 = .ok (.ior, 1) := by decide +kernel
theorem dX11_winnersOf_70 : decode cX11_winnersOf 70 = .ok (.istore_n 3, 1) := by decide +kernel
theorem dX11_winnersOf_71 : decode cX11_winnersOf 71 = .ok (.iinc 4 1, 3) := by decide +kernel
theorem dX11_winnersOf_74 : decode cX11_winnersOf 74 = .ok (.goto (-58), 3) := by decide +kernel
theorem dX11_winnersOf_77 : decode cX11_winnersOf 77 = .ok (.iload_n 3, 1) := by decide +kernel
theorem dX11_winnersOf_78 : decode cX11_winnersOf 78 = .ok (.ireturn, 1) := by decide +kernel
theorem b_X11_winnersOf_0 {j : Nat} {σ : St} {Q : Res → St → Prop} (h : WP mX1_measure 0 [vR 2 j, vR 6 0, vU, vU] [] σ (CT mX11_winnersOf 8 [vR 12 0, vR 2 j, vU, vU, vU, vU] [] Q)) : WP mX11_winnersOf 0 [vR 12 0, vR 2 j, vU, vU, vU, vU] [] σ Q := by
  refine wp_aload_n dX11_winnersOf_0 rfl rfl ?_
  refine wp_aload_n dX11_winnersOf_1 rfl rfl ?_
  refine wp_getR dX11_winnersOf_2 fl_CustomValley_38 rfl rfl ?_
  refine wp_invV (N := mX1_measure) [vR 6 0] dX11_winnersOf_5 ml_CustomValley_240 mvX1_measure rfl rfl rfl rfl rfl (Nat.le_of_ble_eq_true rfl) (Nat.le_of_ble_eq_true rfl) (by decide) (by decide) (by decide) ?_
  exact h
theorem b_X11_winnersOf_8 {j : Nat} {σ : St} {Q : Res → St → Prop} (h : WP mX11_winnersOf 16 [vR 12 0, vR 2 j, vI 1000000, vI 0, vI 0, vU] [] σ Q) : WP mX11_winnersOf 8 [vR 12 0, vR 2 j, vU, vU, vU, vU] [] σ Q := by
  refine wp_ldc (n := 1000000) dX11_winnersOf_8 ck_CustomValley_228 rfl ?_
  refine wp_istore_n dX11_winnersOf_10 rfl (by decide) rfl rfl ?_
  refine wp_iconst dX11_winnersOf_11 rfl ?_
  refine wp_istore_n dX11_winnersOf_12 rfl (by decide) rfl rfl ?_
  refine wp_iconst dX11_winnersOf_13 rfl ?_
  refine wp_istore dX11_winnersOf_14 (by decide) rfl rfl ?_
  exact h
theorem b_X11_winnersOf_16 {j : Nat} {x2 : Int} {x3 : Int} {x4 : Int} {σ : St} {Q : Res → St → Prop} (h : (((σ 5 j 0) ≤ x4) → (Q (.inl (some (vI x3))) σ)) ∧ ((x4 < (σ 5 j 0)) → (((12 ≤ x4) → (Q (.inl (some (vI x3))) σ)) ∧ ((x4 < 12) → (WP mX8_leastSum 0 [vR 9 0, vR 2 j, vI x4] [] σ (CT mX11_winnersOf 45 [vR 12 0, vR 2 j, vI x2, vI x3, vI x4, vU] [] Q)))))) : WP mX11_winnersOf 16 [vR 12 0, vR 2 j, vI x2, vI x3, vI x4, vU] [] σ Q := by
  refine wp_iload dX11_winnersOf_16 rfl ?_
  refine wp_aload_n dX11_winnersOf_18 rfl rfl ?_
  refine wp_getR dX11_winnersOf_19 fl_CustomValley_187 rfl rfl ?_
  refine wp_getI dX11_winnersOf_22 fl_CustomValley_191 rfl rfl rfl ?_
  refine wp_icmp_ge (tgt := 77) dX11_winnersOf_25 (by decide) (fun hc => ?_) (fun hc => ?_)
  · replace h := h.1 hc
    refine wp_iload_n dX11_winnersOf_77 rfl rfl ?_
    exact wp_iret dX11_winnersOf_78 rfl h
  · replace h := h.2 hc
    refine wp_iload dX11_winnersOf_28 rfl ?_
    refine wp_bipush dX11_winnersOf_30 rfl ?_
    refine wp_icmp_ge (tgt := 77) dX11_winnersOf_32 (by decide) (fun hc => ?_) (fun hc => ?_)
    · replace h := h.1 hc
      refine wp_iload_n dX11_winnersOf_77 rfl rfl ?_
      exact wp_iret dX11_winnersOf_78 rfl h
    · replace h := h.2 hc
      refine wp_aload_n dX11_winnersOf_35 rfl rfl ?_
      refine wp_getR dX11_winnersOf_36 fl_CustomValley_48 rfl rfl ?_
      refine wp_aload_n dX11_winnersOf_39 rfl rfl ?_
      refine wp_iload dX11_winnersOf_40 rfl ?_
      refine wp_invV (N := mX8_leastSum) [vR 2 j, vI x4] dX11_winnersOf_42 ml_CustomValley_387 mvX8_leastSum rfl rfl rfl rfl rfl (Nat.le_of_ble_eq_true rfl) (Nat.le_of_ble_eq_true rfl) (by decide) (by decide) (by decide) ?_
      exact h
theorem b_X11_winnersOf_45 {j : Nat} {x2 : Int} {x3 : Int} {x4 : Int} {t0 : Int} {σ : St} {Q : Res → St → Prop} (h : ((x2 ≤ t0) → (((t0 ≠ x2) → ((in32 (x4 + 1)) ∧ (WP mX11_winnersOf 16 [vR 12 0, vR 2 j, vI x2, vI x3, vI (x4 + 1), vU] [] σ Q))) ∧ ((t0 = x2) → ((in32 (x4 + 1)) ∧ (WP mX11_winnersOf 16 [vR 12 0, vR 2 j, vI x2, vI (bor x3 (shl 1 x4)), vI (x4 + 1), vU] [] σ Q))))) ∧ ((t0 < x2) → (((t0 ≠ t0) → ((in32 (x4 + 1)) ∧ (WP mX11_winnersOf 16 [vR 12 0, vR 2 j, vI t0, vI 0, vI (x4 + 1), vU] [] σ Q))) ∧ ((t0 = t0) → ((in32 (x4 + 1)) ∧ (WP mX11_winnersOf 16 [vR 12 0, vR 2 j, vI t0, vI (bor 0 (shl 1 x4)), vI (x4 + 1), vU] [] σ Q)))))) : WP mX11_winnersOf 45 [vR 12 0, vR 2 j, vI x2, vI x3, vI x4, vU] [vI t0] σ Q := by
  refine wp_istore dX11_winnersOf_45 (by decide) rfl rfl ?_
  refine wp_iload dX11_winnersOf_47 rfl ?_
  refine wp_iload_n dX11_winnersOf_49 rfl rfl ?_
  refine wp_icmp_ge (tgt := 58) dX11_winnersOf_50 (by decide) (fun hc => ?_) (fun hc => ?_)
  · replace h := h.1 hc
    refine wp_iload dX11_winnersOf_58 rfl ?_
    refine wp_iload_n dX11_winnersOf_60 rfl rfl ?_
    refine wp_icmp_ne (tgt := 71) dX11_winnersOf_61 (by decide) (fun hc => ?_) (fun hc => ?_)
    · replace h := h.1 hc
      have s1 := h.1
      replace h := h.2
      refine wp_iinc dX11_winnersOf_71 rfl (by decide) rfl rfl ?_ (h1 := s1.1) (h2 := s1.2)
      refine wp_goto (tgt := 16) dX11_winnersOf_74 (by decide) ?_
      exact wp_drop (als' := [vR 12 0, vR 2 j, vI x2, vI x3, vI (x4 + 1), vU]) (lle_c (Or.inl rfl) (lle_c (Or.inl rfl) (lle_c (Or.inl rfl) (lle_c (Or.inl rfl) (lle_c (Or.inl rfl) (lle_c (Or.inr rfl) lle_n)))))) h
    · replace h := h.2 hc
      refine wp_iload_n dX11_winnersOf_64 rfl rfl ?_
      refine wp_iconst dX11_winnersOf_65 rfl ?_
      refine wp_iload dX11_winnersOf_66 rfl ?_
      refine wp_ishl dX11_winnersOf_68 ?_
      refine wp_ior dX11_winnersOf_69 ?_
      refine wp_istore_n dX11_winnersOf_70 rfl (by decide) rfl rfl ?_
      have s2 := h.1
      replace h := h.2
      refine wp_iinc dX11_winnersOf_71 rfl (by decide) rfl rfl ?_ (h1 := s2.1) (h2 := s2.2)
      refine wp_goto (tgt := 16) dX11_winnersOf_74 (by decide) ?_
      exact wp_drop (als' := [vR 12 0, vR 2 j, vI x2, vI (bor x3 (shl 1 x4)), vI (x4 + 1), vU]) (lle_c (Or.inl rfl) (lle_c (Or.inl rfl) (lle_c (Or.inl rfl) (lle_c (Or.inl rfl) (lle_c (Or.inl rfl) (lle_c (Or.inr rfl) lle_n)))))) h
  · replace h := h.2 hc
    refine wp_iload dX11_winnersOf_53 rfl ?_
    refine wp_istore_n dX11_winnersOf_55 rfl (by decide) rfl rfl ?_
    refine wp_iconst dX11_winnersOf_56 rfl ?_
    refine wp_istore_n dX11_winnersOf_57 rfl (by decide) rfl rfl ?_
    refine wp_iload dX11_winnersOf_58 rfl ?_
    refine wp_iload_n dX11_winnersOf_60 rfl rfl ?_
    refine wp_icmp_ne (tgt := 71) dX11_winnersOf_61 (by decide) (fun hc => ?_) (fun hc => ?_)
    · replace h := h.1 hc
      have s3 := h.1
      replace h := h.2
      refine wp_iinc dX11_winnersOf_71 rfl (by decide) rfl rfl ?_ (h1 := s3.1) (h2 := s3.2)
      refine wp_goto (tgt := 16) dX11_winnersOf_74 (by decide) ?_
      exact wp_drop (als' := [vR 12 0, vR 2 j, vI t0, vI 0, vI (x4 + 1), vU]) (lle_c (Or.inl rfl) (lle_c (Or.inl rfl) (lle_c (Or.inl rfl) (lle_c (Or.inl rfl) (lle_c (Or.inl rfl) (lle_c (Or.inr rfl) lle_n)))))) h
    · replace h := h.2 hc
      refine wp_iload_n dX11_winnersOf_64 rfl rfl ?_
      refine wp_iconst dX11_winnersOf_65 rfl ?_
      refine wp_iload dX11_winnersOf_66 rfl ?_
      refine wp_ishl dX11_winnersOf_68 ?_
      refine wp_ior dX11_winnersOf_69 ?_
      refine wp_istore_n dX11_winnersOf_70 rfl (by decide) rfl rfl ?_
      have s4 := h.1
      replace h := h.2
      refine wp_iinc dX11_winnersOf_71 rfl (by decide) rfl rfl ?_ (h1 := s4.1) (h2 := s4.2)
      refine wp_goto (tgt := 16) dX11_winnersOf_74 (by decide) ?_
      exact wp_drop (als' := [vR 12 0, vR 2 j, vI t0, vI (bor 0 (shl 1 x4)), vI (x4 + 1), vU]) (lle_c (Or.inl rfl) (lle_c (Or.inl rfl) (lle_c (Or.inl rfl) (lle_c (Or.inl rfl) (lle_c (Or.inl rfl) (lle_c (Or.inr rfl) lle_n)))))) h
theorem dX11_answers_0 : decode cX11_answers 0 = .ok (.aload_n 0, 1) := by decide +kernel
theorem dX11_answers_1 : decode cX11_answers 1 = .ok (.getfield 28, 3) := by decide +kernel
theorem dX11_answers_4 : decode cX11_answers 4 = .ok (.getfield 103, 3) := by decide +kernel
theorem dX11_answers_7 : decode cX11_answers 7 = .ok (.iload_n 1, 1) := by decide +kernel
theorem dX11_answers_8 : decode cX11_answers 8 = .ok (.invokevirtual 151, 3) := by decide +kernel
theorem dX11_answers_11 : decode cX11_answers 11 = .ok (.ifCond .eq 17, 3) := by decide +kernel
theorem dX11_answers_14 : decode cX11_answers 14 = .ok (.aload_n 0, 1) := by decide +kernel
theorem dX11_answers_15 : decode cX11_answers 15 = .ok (.getfield 28, 3) := by decide +kernel
theorem dX11_answers_18 : decode cX11_answers 18 = .ok (.getfield 103, 3) := by decide +kernel
theorem dX11_answers_21 : decode cX11_answers 21 = .ok (.iload_n 2, 1) := by decide +kernel
theorem dX11_answers_22 : decode cX11_answers 22 = .ok (.invokevirtual 155, 3) := by decide +kernel
theorem dX11_answers_25 : decode cX11_answers 25 = .ok (.ifCond .ne 6, 3) := by decide +kernel
theorem dX11_answers_28 : decode cX11_answers 28 = .ok (.bipush (-2), 2) := by decide +kernel
theorem dX11_answers_30 : decode cX11_answers 30 = .ok (.ireturn, 1) := by decide +kernel
theorem dX11_answers_31 : decode cX11_answers 31 = .ok (.aload_n 0, 1) := by decide +kernel
theorem dX11_answers_32 : decode cX11_answers 32 = .ok (.getfield 28, 3) := by decide +kernel
theorem dX11_answers_35 : decode cX11_answers 35 = .ok (.invokevirtual 165, 3) := by decide +kernel
theorem dX11_answers_38 : decode cX11_answers 38 = .ok (.aload_n 0, 1) := by decide +kernel
theorem dX11_answers_39 : decode cX11_answers 39 = .ok (.getfield 28, 3) := by decide +kernel
theorem dX11_answers_42 : decode cX11_answers 42 = .ok (.getfield 168, 3) := by decide +kernel
theorem dX11_answers_45 : decode cX11_answers 45 = .ok (.iload_n 1, 1) := by decide +kernel
theorem dX11_answers_46 : decode cX11_answers 46 = .ok (.iload_n 2, 1) := by decide +kernel
theorem dX11_answers_47 : decode cX11_answers 47 = .ok (.invokevirtual 172, 3) := by decide +kernel
theorem dX11_answers_50 : decode cX11_answers 50 = .ok (.ireturn, 1) := by decide +kernel
theorem b_X11_answers_0 {x1 : Int} {x2 : Int} {σ : St} {Q : Res → St → Prop} (h : WP mX9_isState 0 [vR 10 0, vI x1, vU] [] σ (CT mX11_answers 11 [vR 12 0, vI x1, vI x2] [] Q)) : WP mX11_answers 0 [vR 12 0, vI x1, vI x2] [] σ Q := by
  refine wp_aload_n dX11_answers_0 rfl rfl ?_
  refine wp_getR dX11_answers_1 fl_CustomValley_28 rfl rfl ?_
  refine wp_getR dX11_answers_4 fl_CustomValley_103 rfl rfl ?_
  refine wp_iload_n dX11_answers_7 rfl rfl ?_
  refine wp_invV (N := mX9_isState) [vI x1] dX11_answers_8 ml_CustomValley_151 mvX9_isState rfl rfl rfl rfl rfl (Nat.le_of_ble_eq_true rfl) (Nat.le_of_ble_eq_true rfl) (by decide) (by decide) (by decide) ?_
  exact h
theorem b_X11_answers_11 {x1 : Int} {x2 : Int} {t0 : Int} {σ : St} {Q : Res → St → Prop} (h : ((t0 = 0) → (Q (.inl (some (vI (-2)))) σ)) ∧ ((t0 ≠ 0) → (((0 ≤ x2 ∧ x2 < (σ 10 0 0)) → (WP mX1_ready 0 [vR 2 0] [] σ (CT mX11_answers 38 [vR 12 0, vI x1, vI x2] [] Q))) ∧ ((¬ (0 ≤ x2 ∧ x2 < (σ 10 0 0))) → (Q (.inl (some (vI (-2)))) σ))))) : WP mX11_answers 11 [vR 12 0, vI x1, vI x2] [vI t0] σ Q := by
  refine wp_if_eq (tgt := 28) dX11_answers_11 (by decide) (fun hc => ?_) (fun hc => ?_)
  · replace h := h.1 hc
    refine wp_bipush dX11_answers_28 rfl ?_
    exact wp_iret dX11_answers_30 rfl h
  · replace h := h.2 hc
    refine wp_aload_n dX11_answers_14 rfl rfl ?_
    refine wp_getR dX11_answers_15 fl_CustomValley_28 rfl rfl ?_
    refine wp_getR dX11_answers_18 fl_CustomValley_103 rfl rfl ?_
    refine wp_iload_n dX11_answers_21 rfl rfl ?_
    refine wp_invV (N := mX9_isPerson) [vI x2] dX11_answers_22 ml_CustomValley_155 mvX9_isPerson rfl rfl rfl rfl rfl (Nat.le_of_ble_eq_true rfl) (Nat.le_of_ble_eq_true rfl) (by decide) (by decide) (by decide) ?_
    refine pb_X9_isPerson (by trivial) ?_
    show WP mX11_answers 25 [vR 12 0, vI x1, vI x2] [vI (b2 (0 ≤ x2 ∧ x2 < (σ 10 0 0)))] σ Q
    refine wp_if_ne (tgt := 31) dX11_answers_25 (by decide) (fun hc => ?_) (fun hc => ?_)
    · replace h := h.1 (b2_ne hc)
      refine wp_aload_n dX11_answers_31 rfl rfl ?_
      refine wp_getR dX11_answers_32 fl_CustomValley_28 rfl rfl ?_
      refine wp_invV (N := mX1_ready) [] dX11_answers_35 ml_CustomValley_165 mvX1_ready rfl rfl rfl rfl rfl (Nat.le_of_ble_eq_true rfl) (Nat.le_of_ble_eq_true rfl) (by decide) (by decide) (by decide) ?_
      exact h
    · replace h := h.2 (b2_eq hc)
      refine wp_bipush dX11_answers_28 rfl ?_
      exact wp_iret dX11_answers_30 rfl h
theorem b_X11_answers_38 {x1 : Int} {x2 : Int} {σ : St} {Q : Res → St → Prop} (h : (in32 (x1 * 10) ∧ in32 ((x1 * 10) + x2) ∧ 0 ≤ (x1 * 10) + x2 ∧ ((x1 * 10) + x2) < 10240) ∧ (Q (.inl (some (vI (band (σ 23 0 (((x1 * 10) + x2).toNat)) 15)))) σ)) : WP mX11_answers 38 [vR 12 0, vI x1, vI x2] [] σ Q := by
  refine wp_aload_n dX11_answers_38 rfl rfl ?_
  refine wp_getR dX11_answers_39 fl_CustomValley_28 rfl rfl ?_
  refine wp_getR dX11_answers_42 fl_CustomValley_168 rfl rfl ?_
  refine wp_iload_n dX11_answers_45 rfl rfl ?_
  refine wp_iload_n dX11_answers_46 rfl rfl ?_
  have s1 := h.1
  replace h := h.2
  refine wp_invV (N := mX3_bits) [vI x1, vI x2] dX11_answers_47 ml_CustomValley_172 mvX3_bits rfl rfl rfl rfl rfl (Nat.le_of_ble_eq_true rfl) (Nat.le_of_ble_eq_true rfl) (by decide) (by decide) (by decide) ?_
  refine pb_X3_bits s1 ?_
  show WP mX11_answers 50 [vR 12 0, vI x1, vI x2] [vI (band (σ 23 0 (((x1 * 10) + x2).toNat)) 15)] σ Q
  exact wp_iret dX11_answers_50 rfl h
theorem dX11_between_0 : decode cX11_between 0 = .ok (.aload_n 0, 1) := by decide +kernel
theorem dX11_between_1 : decode cX11_between 1 = .ok (.getfield 28, 3) := by decide +kernel
theorem dX11_between_4 : decode cX11_between 4 = .ok (.invokevirtual 165, 3) := by decide +kernel
theorem dX11_between_7 : decode cX11_between 7 = .ok (.aload_n 0, 1) := by decide +kernel
theorem dX11_between_8 : decode cX11_between 8 = .ok (.getfield 28, 3) := by decide +kernel
theorem dX11_between_11 : decode cX11_between 11 = .ok (.getfield 187, 3) := by decide +kernel
theorem dX11_between_14 : decode cX11_between 14 = .ok (.iload_n 1, 1) := by decide +kernel
theorem dX11_between_15 : decode cX11_between 15 = .ok (.invokevirtual 196, 3) := by decide +kernel
theorem dX11_between_18 : decode cX11_between 18 = .ok (.ifCond .eq 17, 3) := by decide +kernel
theorem dX11_between_21 : decode cX11_between 21 = .ok (.aload_n 0, 1) := by decide +kernel
theorem dX11_between_22 : decode cX11_between 22 = .ok (.getfield 28, 3) := by decide +kernel
theorem dX11_between_25 : decode cX11_between 25 = .ok (.getfield 187, 3) := by decide +kernel
theorem dX11_between_28 : decode cX11_between 28 = .ok (.iload_n 2, 1) := by decide +kernel
theorem dX11_between_29 : decode cX11_between 29 = .ok (.invokevirtual 196, 3) := by decide +kernel
theorem dX11_between_32 : decode cX11_between 32 = .ok (.ifCond .ne 6, 3) := by decide +kernel
theorem dX11_between_35 : decode cX11_between 35 = .ok (.bipush (-2), 2) := by decide +kernel
theorem dX11_between_37 : decode cX11_between 37 = .ok (.ireturn, 1) := by decide +kernel
theorem dX11_between_38 : decode cX11_between 38 = .ok (.aload_n 0, 1) := by decide +kernel
theorem dX11_between_39 : decode cX11_between 39 = .ok (.iload_n 2, 1) := by decide +kernel
theorem dX11_between_40 : decode cX11_between 40 = .ok (.invokevirtual 218, 3) := by decide +kernel
theorem dX11_between_43 : decode cX11_between 43 = .ok (.aload_n 0, 1) := by decide +kernel
theorem dX11_between_44 : decode cX11_between 44 = .ok (.getfield 42, 3) := by decide +kernel
theorem dX11_between_47 : decode cX11_between 47 = .ok (.getfield 221, 3) := by decide +kernel
theorem dX11_between_50 : decode cX11_between 50 = .ok (.aload_n 0, 1) := by decide +kernel
theorem dX11_between_51 : decode cX11_between 51 = .ok (.getfield 28, 3) := by decide +kernel
theorem dX11_between_54 : decode cX11_between 54 = .ok (.getfield 187, 3) := by decide +kernel
theorem dX11_between_57 : decode cX11_between 57 = .ok (.iload_n 1, 1) := by decide +kernel
theorem dX11_between_58 : decode cX11_between 58 = .ok (.invokevirtual 199, 3) := by decide +kernel
theorem dX11_between_61 : decode cX11_between 61 = .ok (.iaload, 1) := by decide +kernel
theorem dX11_between_62 : decode cX11_between 62 = .ok (.ireturn, 1) := by decide +kernel
theorem b_X11_between_0 {x1 : Int} {x2 : Int} {σ : St} {Q : Res → St → Prop} (h : WP mX1_ready 0 [vR 2 0] [] σ (CT mX11_between 7 [vR 12 0, vI x1, vI x2] [] Q)) : WP mX11_between 0 [vR 12 0, vI x1, vI x2] [] σ Q := by
  refine wp_aload_n dX11_between_0 rfl rfl ?_
  refine wp_getR dX11_between_1 fl_CustomValley_28 rfl rfl ?_
  refine wp_invV (N := mX1_ready) [] dX11_between_4 ml_CustomValley_165 mvX1_ready rfl rfl rfl rfl rfl (Nat.le_of_ble_eq_true rfl) (Nat.le_of_ble_eq_true rfl) (by decide) (by decide) (by decide) ?_
  exact h
theorem b_X11_between_7 {x1 : Int} {x2 : Int} {σ : St} {Q : Res → St → Prop} (h : ((¬ (0 ≤ x1 ∧ x1 < (σ 5 0 0))) → (Q (.inl (some (vI (-2)))) σ)) ∧ ((0 ≤ x1 ∧ x1 < (σ 5 0 0)) → (((0 ≤ x2 ∧ x2 < (σ 5 0 0)) → (WP mX11_aimAt 0 [vR 12 0, vI x2] [] σ (CT mX11_between 43 [vR 12 0, vI x1, vU] [] Q))) ∧ ((¬ (0 ≤ x2 ∧ x2 < (σ 5 0 0))) → (Q (.inl (some (vI (-2)))) σ))))) : WP mX11_between 7 [vR 12 0, vI x1, vI x2] [] σ Q := by
  refine wp_aload_n dX11_between_7 rfl rfl ?_
  refine wp_getR dX11_between_8 fl_CustomValley_28 rfl rfl ?_
  refine wp_getR dX11_between_11 fl_CustomValley_187 rfl rfl ?_
  refine wp_iload_n dX11_between_14 rfl rfl ?_
  refine wp_invV (N := mX4_has) [vI x1] dX11_between_15 ml_CustomValley_196 mvX4_has rfl rfl rfl rfl rfl (Nat.le_of_ble_eq_true rfl) (Nat.le_of_ble_eq_true rfl) (by decide) (by decide) (by decide) ?_
  refine pb_X4_has (by trivial) ?_
  show WP mX11_between 18 [vR 12 0, vI x1, vI x2] [vI (b2 (0 ≤ x1 ∧ x1 < (σ 5 0 0)))] σ Q
  refine wp_if_eq (tgt := 35) dX11_between_18 (by decide) (fun hc => ?_) (fun hc => ?_)
  · replace h := h.1 (b2_eq hc)
    refine wp_bipush dX11_between_35 rfl ?_
    exact wp_iret dX11_between_37 rfl h
  · replace h := h.2 (b2_ne hc)
    refine wp_aload_n dX11_between_21 rfl rfl ?_
    refine wp_getR dX11_between_22 fl_CustomValley_28 rfl rfl ?_
    refine wp_getR dX11_between_25 fl_CustomValley_187 rfl rfl ?_
    refine wp_iload_n dX11_between_28 rfl rfl ?_
    refine wp_invV (N := mX4_has) [vI x2] dX11_between_29 ml_CustomValley_196 mvX4_has rfl rfl rfl rfl rfl (Nat.le_of_ble_eq_true rfl) (Nat.le_of_ble_eq_true rfl) (by decide) (by decide) (by decide) ?_
    refine pb_X4_has (by trivial) ?_
    show WP mX11_between 32 [vR 12 0, vI x1, vI x2] [vI (b2 (0 ≤ x2 ∧ x2 < (σ 5 0 0)))] σ Q
    refine wp_if_ne (tgt := 38) dX11_between_32 (by decide) (fun hc => ?_) (fun hc => ?_)
    · replace h := h.1 (b2_ne hc)
      refine wp_aload_n dX11_between_38 rfl rfl ?_
      refine wp_iload_n dX11_between_39 rfl rfl ?_
      refine wp_invV (N := mX11_aimAt) [vI x2] dX11_between_40 ml_CustomValley_218 mvX11_aimAt rfl rfl rfl rfl rfl (Nat.le_of_ble_eq_true rfl) (Nat.le_of_ble_eq_true rfl) (by decide) (by decide) (by decide) ?_
      exact WP.mono h (ct_drop (lle_c (Or.inl rfl) (lle_c (Or.inl rfl) (lle_c (Or.inr rfl) lle_n))))
    · replace h := h.2 (b2_eq hc)
      refine wp_bipush dX11_between_35 rfl ?_
      exact wp_iret dX11_between_37 rfl h
theorem b_X11_between_43 {x1 : Int} {σ : St} {Q : Res → St → Prop} (h : (0 ≤ x1 ∧ x1 < 1025 ∧ 0 ≤ σ 30 0 x1.toNat ∧ (σ 30 0 x1.toNat) < 1024) ∧ ((0 ≤ σ 29 0 ((σ 30 0 x1.toNat).toNat) ∧ (σ 29 0 ((σ 30 0 x1.toNat).toNat)) < 1024) ∧ (Q (.inl (some (vI (σ 37 1 ((σ 29 0 ((σ 30 0 x1.toNat).toNat)).toNat))))) σ))) : WP mX11_between 43 [vR 12 0, vI x1, vU] [] σ Q := by
  refine wp_aload_n dX11_between_43 rfl rfl ?_
  refine wp_getR dX11_between_44 fl_CustomValley_42 rfl rfl ?_
  refine wp_getR dX11_between_47 fl_CustomValley_221 rfl rfl ?_
  refine wp_aload_n dX11_between_50 rfl rfl ?_
  refine wp_getR dX11_between_51 fl_CustomValley_28 rfl rfl ?_
  refine wp_getR dX11_between_54 fl_CustomValley_187 rfl rfl ?_
  refine wp_iload_n dX11_between_57 rfl rfl ?_
  have s2 := h.1
  replace h := h.2
  refine wp_invV (N := mX4_least) [vI x1] dX11_between_58 ml_CustomValley_199 mvX4_least rfl rfl rfl rfl rfl (Nat.le_of_ble_eq_true rfl) (Nat.le_of_ble_eq_true rfl) (by decide) (by decide) (by decide) ?_
  refine pb_X4_least s2 ?_
  show WP mX11_between 61 [vR 12 0, vI x1, vU] [vI (σ 29 0 ((σ 30 0 x1.toNat).toNat)), vR 37 1] σ Q
  have s1 := h.1
  replace h := h.2
  refine wp_iaload dX11_between_61 rfl rfl s1.1 s1.2 ?_
  exact wp_iret dX11_between_62 rfl h
theorem dX11_carried_0 : decode cX11_carried 0 = .ok (.aload_n 0, 1) := by decide +kernel
theorem dX11_carried_1 : decode cX11_carried 1 = .ok (.getfield 28, 3) := by decide +kernel
theorem dX11_carried_4 : decode cX11_carried 4 = .ok (.getfield 103, 3) := by decide +kernel
theorem dX11_carried_7 : decode cX11_carried 7 = .ok (.astore_n 3, 1) := by decide +kernel
theorem dX11_carried_8 : decode cX11_carried 8 = .ok (.aload_n 3, 1) := by decide +kernel
theorem dX11_carried_9 : decode cX11_carried 9 = .ok (.iload_n 1, 1) := by decide +kernel
theorem dX11_carried_10 : decode cX11_carried 10 = .ok (.invokevirtual 177, 3) := by decide +kernel
theorem dX11_carried_13 : decode cX11_carried 13 = .ok (.ifCond .eq 11, 3) := by decide +kernel
theorem dX11_carried_16 : decode cX11_carried 16 = .ok (.aload_n 3, 1) := by decide +kernel
theorem dX11_carried_17 : decode cX11_carried 17 = .ok (.iload_n 2, 1) := by decide +kernel
theorem dX11_carried_18 : decode cX11_carried 18 = .ok (.invokevirtual 177, 3) := by decide +kernel
theorem dX11_carried_21 : decode cX11_carried 21 = .ok (.ifCond .ne 6, 3) := by decide +kernel
theorem dX11_carried_24 : decode cX11_carried 24 = .ok (.bipush (-2), 2) := by decide +kernel
theorem dX11_carried_26 : decode cX11_carried 26 = .ok (.ireturn, 1) := by decide +kernel
theorem dX11_carried_27 : decode cX11_carried 27 = .ok (.aload_n 0, 1) := by decide +kernel
theorem dX11_carried_28 : decode cX11_carried 28 = .ok (.getfield 28, 3) := by decide +kernel
theorem dX11_carried_31 : decode cX11_carried 31 = .ok (.invokevirtual 165, 3) := by decide +kernel
theorem dX11_carried_34 : decode cX11_carried 34 = .ok (.aload_n 3, 1) := by decide +kernel
theorem dX11_carried_35 : decode cX11_carried 35 = .ok (.aload_n 3, 1) := by decide +kernel
theorem dX11_carried_36 : decode cX11_carried 36 = .ok (.getfield 271, 3) := by decide +kernel
theorem dX11_carried_39 : decode cX11_carried 39 = .ok (.iconst 0, 1) := by decide +kernel
theorem dX11_carried_40 : decode cX11_carried 40 = .ok (.iaload, 1) := by decide +kernel
theorem dX11_carried_41 : decode cX11_carried 41 = .ok (.aload_n 3, 1) := by decide +kernel
theorem dX11_carried_42 : decode cX11_carried 42 = .ok (.getfield 134, 3) := by decide +kernel
theorem dX11_carried_45 : decode cX11_carried 45 = .ok (.iload_n 1, 1) := by decide +kernel
theorem dX11_carried_46 : decode cX11_carried 46 = .ok (.invokevirtual 274, 3) := by decide +kernel
theorem dX11_carried_49 : decode cX11_carried 49 = .ok (.istore 4, 2) := by decide +kernel
theorem dX11_carried_51 : decode cX11_carried 51 = .ok (.aload_n 0, 1) := by decide +kernel
theorem dX11_carried_52 : decode cX11_carried 52 = .ok (.getfield 28, 3) := by decide +kernel
theorem dX11_carried_55 : decode cX11_carried 55 = .ok (.getfield 187, 3) := by decide +kernel
theorem dX11_carried_58 : decode cX11_carried 58 = .ok (.getfield 215, 3) := by decide +kernel
theorem dX11_carried_61 : decode cX11_carried 61 = .ok (.iload 4, 2) := by decide +kernel
theorem dX11_carried_63 : decode cX11_carried 63 = .ok (.iaload, 1) := by decide +kernel
theorem dX11_carried_64 : decode cX11_carried 64 = .ok (.istore 5, 2) := by decide +kernel
theorem dX11_carried_66 : decode cX11_carried 66 = .ok (.iload 5, 2) := by decide +kernel
theorem dX11_carried_68 : decode cX11_carried 68 = .ok (.ifCond .lt 19, 3) := by decide +kernel
theorem dX11_carried_71 : decode cX11_carried 71 = .ok (.aload_n 0, 1) := by decide +kernel
theorem dX11_carried_72 : decode cX11_carried 72 = .ok (.getfield 28, 3) := by decide +kernel
theorem dX11_carried_75 : decode cX11_carried 75 = .ok (.getfield 187, 3) := by decide +kernel
theorem dX11_carried_78 : decode cX11_carried 78 = .ok (.iload 5, 2) := by decide +kernel
theorem dX11_carried_80 : decode cX11_carried 80 = .ok (.invokevirtual 203, 3) := by decide +kernel
theorem dX11_carried_83 : decode cX11_carried 83 = .ok (.iconst 1, 1) := by decide +kernel
theorem dX11_carried_84 : decode cX11_carried 84 = .ok (.if_icmp .eq 5, 3) := by decide +kernel
theorem dX11_carried_87 : decode cX11_carried 87 = .ok (.iconst (-1), 1) := by decide +kernel
theorem dX11_carried_88 : decode cX11_carried 88 = .ok (.ireturn, 1) := by decide +kernel
theorem dX11_carried_89 : decode cX11_carried 89 = .ok (.aload_n 3, 1) := by decide +kernel
theorem dX11_carried_90 : decode cX11_carried 90 = .ok (.iload 4, 2) := by decide +kernel
theorem dX11_carried_92 : decode cX11_carried 92 = .ok (.aload_n 3, 1) := by decide +kernel
theorem dX11_carried_93 : decode cX11_carried 93 = .ok (.getfield 134, 3) := by decide +kernel
theorem dX11_carried_96 : decode cX11_carried 96 = .ok (.iload_n 2, 1) := by decide +kernel
theorem dX11_carried_97 : decode cX11_carried 97 = .ok (.invokevirtual 274, 3) := by decide +kernel
theorem dX11_carried_100 : decode cX11_carried 100 = .ok (.istore 6, 2) := by decide +kernel
theorem dX11_carried_102 : decode cX11_carried 102 = .ok (.aload_n 3, 1) := by decide +kernel
theorem dX11_carried_103 : decode cX11_carried 103 = .ok (.getfield 134, 3) := by decide +kernel
theorem dX11_carried_106 : decode cX11_carried 106 = .ok (.istore 7, 2) := by decide +kernel
theorem dX11_carried_108 : decode cX11_carried 108 = .ok (.iconst 0, 1) := by decide +kernel
theorem dX11_carried_109 : decode cX11_carried 109 = .ok (.istore 8, 2) := by decide +kernel
theorem dX11_carried_111 : decode cX11_carried 111 = .ok (.iload 8, 2) := by decide +kernel
theorem dX11_carried_113 : decode cX11_carried 113 = .ok (.iconst 1, 1) := by decide +kernel
theorem dX11_carried_114 : decode cX11_carried 114 = .ok (.aload_n 3, 1) := by decide +kernel
theorem dX11_carried_115 : decode cX11_carried 115 = .ok (.getfield 128, 3) := by decide +kernel
theorem dX11_carried_118 : decode cX11_carried 118 = .ok (.ishl, 1) := by decide +kernel
theorem dX11_carried_119 : decode cX11_carried 119 = .ok (.if_icmp .ge 75, 3) := by decide +kernel
theorem dX11_carried_122 : decode cX11_carried 122 = .ok (.iload 8, 2) := by decide +kernel
theorem dX11_carried_124 : decode cX11_carried 124 = .ok (.invokestatic 277, 3) := by decide +kernel
theorem dX11_carried_127 : decode cX11_carried 127 = .ok (.iload 7, 2) := by decide +kernel
theorem dX11_carried_129 : decode cX11_carried 129 = .ok (.invokestatic 277, 3) := by decide +kernel
theorem dX11_carried_132 : decode cX11_carried 132 = .ok (.if_icmp .ge 7, 3) := by decide +kernel
theorem dX11_carried_135 : decode cX11_carried 135 = .ok (.iconst 1, 1) := by decide +kernel
theorem dX11_carried_136 : decode cX11_carried 136 = .ok (.goto 4, 3) := by decide +kernel
theorem dX11_carried_139 : decode cX11_carried 139 = .ok (.iconst 0, 1) := by decide +kernel
theorem dX11_carried_140 : decode cX11_carried 140 = .ok (.istore 9, 2) := by decide +kernel
theorem dX11_carried_142 : decode cX11_carried 142 = .ok (.iload 9, 2) := by decide +kernel
theorem dX11_carried_144 : decode cX11_carried 144 = .ok (.ifCond .eq 44, 3) := by decide +kernel
theorem dX11_carried_147 : decode cX11_carried 147 = .ok (.iload 8, 2) := by decide +kernel
theorem dX11_carried_149 : decode cX11_carried 149 = .ok (.aload_n 3, 1) := by decide +kernel
theorem dX11_carried_150 : decode cX11_carried 150 = .ok (.getfield 134, 3) := by decide +kernel
theorem dX11_carried_153 : decode cX11_carried 153 = .ok (.iconst (-1), 1) := by decide +kernel
theorem dX11_carried_154 : decode cX11_carried 154 = .ok (.ixor, 1) := by decide +kernel
theorem dX11_carried_155 : decode cX11_carried 155 = .ok (.iand, 1) := by decide +kernel
theorem dX11_carried_156 : decode cX11_carried 156 = .ok (.ifCond .ne 32, 3) := by decide +kernel
theorem dX11_carried_159 : decode cX11_carried 159 = .ok (.aload_n 0, 1) := by decide +kernel
theorem dX11_carried_160 : decode cX11_carried 160 = .ok (.getfield 28, 3) := by decide +kernel
theorem dX11_carried_163 : decode cX11_carried 163 = .ok (.getfield 187, 3) := by decide +kernel
theorem dX11_carried_166 : decode cX11_carried 166 = .ok (.getfield 282, 3) := by decide +kernel
theorem dX11_carried_169 : decode cX11_carried 169 = .ok (.aload_n 3, 1) := by decide +kernel
theorem dX11_carried_170 : decode cX11_carried 170 = .ok (.iload 6, 2) := by decide +kernel
theorem dX11_carried_172 : decode cX11_carried 172 = .ok (.iload 8, 2) := by decide +kernel
theorem dX11_carried_174 : decode cX11_carried 174 = .ok (.iload_n 1, 1) := by decide +kernel
theorem dX11_carried_175 : decode cX11_carried 175 = .ok (.invokevirtual 274, 3) := by decide +kernel
theorem dX11_carried_178 : decode cX11_carried 178 = .ok (.iaload, 1) := by decide +kernel
theorem dX11_carried_179 : decode cX11_carried 179 = .ok (.iload 5, 2) := by decide +kernel
theorem dX11_carried_181 : decode cX11_carried 181 = .ok (.if_icmp .ne 7, 3) := by decide +kernel
theorem dX11_carried_184 : decode cX11_carried 184 = .ok (.iload 8, 2) := by decide +kernel
theorem dX11_carried_186 : decode cX11_carried 186 = .ok (.istore 7, 2) := by decide +kernel
theorem dX11_carried_188 : decode cX11_carried 188 = .ok (.iinc 8 1, 3) := by decide +kernel
theorem dX11_carried_191 : decode cX11_carried 191 = .ok (.goto (-80), 3) := by decide +kernel
theorem dX11_carried_194 : decode cX11_carried 194 = .ok (.iload 7, 2) := by decide +kernel
theorem dX11_carried_196 : decode cX11_carried 196 = .ok (.ireturn, 1) := by decide +kernel
theorem b_X11_carried_0 {x1 : Int} {x2 : Int} {σ : St} {Q : Res → St → Prop} (h : ((¬ (0 ≤ x1 ∧ x1 < (σ 10 0 1))) → (Q (.inl (some (vI (-2)))) σ)) ∧ ((0 ≤ x1 ∧ x1 < (σ 10 0 1)) → (((0 ≤ x2 ∧ x2 < (σ 10 0 1)) → (WP mX1_ready 0 [vR 2 0] [] σ (CT mX11_carried 34 [vR 12 0, vI x1, vI x2, vR 10 0, vU, vU, vU, vU, vU, vU] [] Q))) ∧ ((¬ (0 ≤ x2 ∧ x2 < (σ 10 0 1))) → (Q (.inl (some (vI (-2)))) σ))))) : WP mX11_carried 0 [vR 12 0, vI x1, vI x2, vU, vU, vU, vU, vU, vU, vU] [] σ Q := by
  refine wp_aload_n dX11_carried_0 rfl rfl ?_
  refine wp_getR dX11_carried_1 fl_CustomValley_28 rfl rfl ?_
  refine wp_getR dX11_carried_4 fl_CustomValley_103 rfl rfl ?_
  refine wp_astore_n dX11_carried_7 rfl (by decide) rfl rfl ?_
  refine wp_aload_n dX11_carried_8 rfl rfl ?_
  refine wp_iload_n dX11_carried_9 rfl rfl ?_
  refine wp_invV (N := mX9_isHabit) [vI x1] dX11_carried_10 ml_CustomValley_177 mvX9_isHabit rfl rfl rfl rfl rfl (Nat.le_of_ble_eq_true rfl) (Nat.le_of_ble_eq_true rfl) (by decide) (by decide) (by decide) ?_
  refine pb_X9_isHabit (by trivial) ?_
  show WP mX11_carried 13 [vR 12 0, vI x1, vI x2, vR 10 0, vU, vU, vU, vU, vU, vU] [vI (b2 (0 ≤ x1 ∧ x1 < (σ 10 0 1)))] σ Q
  refine wp_if_eq (tgt := 24) dX11_carried_13 (by decide) (fun hc => ?_) (fun hc => ?_)
  · replace h := h.1 (b2_eq hc)
    refine wp_bipush dX11_carried_24 rfl ?_
    exact wp_iret dX11_carried_26 rfl h
  · replace h := h.2 (b2_ne hc)
    refine wp_aload_n dX11_carried_16 rfl rfl ?_
    refine wp_iload_n dX11_carried_17 rfl rfl ?_
    refine wp_invV (N := mX9_isHabit) [vI x2] dX11_carried_18 ml_CustomValley_177 mvX9_isHabit rfl rfl rfl rfl rfl (Nat.le_of_ble_eq_true rfl) (Nat.le_of_ble_eq_true rfl) (by decide) (by decide) (by decide) ?_
    refine pb_X9_isHabit (by trivial) ?_
    show WP mX11_carried 21 [vR 12 0, vI x1, vI x2, vR 10 0, vU, vU, vU, vU, vU, vU] [vI (b2 (0 ≤ x2 ∧ x2 < (σ 10 0 1)))] σ Q
    refine wp_if_ne (tgt := 27) dX11_carried_21 (by decide) (fun hc => ?_) (fun hc => ?_)
    · replace h := h.1 (b2_ne hc)
      refine wp_aload_n dX11_carried_27 rfl rfl ?_
      refine wp_getR dX11_carried_28 fl_CustomValley_28 rfl rfl ?_
      refine wp_invV (N := mX1_ready) [] dX11_carried_31 ml_CustomValley_165 mvX1_ready rfl rfl rfl rfl rfl (Nat.le_of_ble_eq_true rfl) (Nat.le_of_ble_eq_true rfl) (by decide) (by decide) (by decide) ?_
      exact h
    · replace h := h.2 (b2_eq hc)
      refine wp_bipush dX11_carried_24 rfl ?_
      exact wp_iret dX11_carried_26 rfl h
theorem b_X11_carried_34 {x1 : Int} {x2 : Int} {σ : St} {Q : Res → St → Prop} (h : WP mX9_allWith 0 [vR 10 0, vI (σ 61 0 0), vI (σ 10 0 9), vI x1, vU, vU] [] σ (CT mX11_carried 49 [vR 12 0, vI x1, vI x2, vR 10 0, vU, vU, vU, vU, vU, vU] [] Q)) : WP mX11_carried 34 [vR 12 0, vI x1, vI x2, vR 10 0, vU, vU, vU, vU, vU, vU] [] σ Q := by
  refine wp_aload_n dX11_carried_34 rfl rfl ?_
  refine wp_aload_n dX11_carried_35 rfl rfl ?_
  refine wp_getR dX11_carried_36 fl_CustomValley_271 rfl rfl ?_
  refine wp_iconst dX11_carried_39 rfl ?_
  refine wp_iaload dX11_carried_40 rfl rfl (by decide) (by decide) ?_
  refine wp_aload_n dX11_carried_41 rfl rfl ?_
  refine wp_getI dX11_carried_42 fl_CustomValley_134 rfl rfl rfl ?_
  refine wp_iload_n dX11_carried_45 rfl rfl ?_
  refine wp_invV (N := mX9_allWith) [vI (σ 61 0 0), vI (σ 10 0 9), vI x1] dX11_carried_46 ml_CustomValley_274 mvX9_allWith rfl rfl rfl rfl rfl (Nat.le_of_ble_eq_true rfl) (Nat.le_of_ble_eq_true rfl) (by decide) (by decide) (by decide) ?_
  exact h
theorem b_X11_carried_49 {x1 : Int} {x2 : Int} {t0 : Int} {σ : St} {Q : Res → St → Prop} (h : (0 ≤ t0 ∧ t0 < 1024) ∧ ((((σ 27 0 t0.toNat) < 0) → (Q (.inl (some (vI (-1)))) σ)) ∧ ((0 ≤ (σ 27 0 t0.toNat)) → ((in32 ((σ 27 0 t0.toNat) + 1) ∧ 0 ≤ (σ 27 0 t0.toNat) + 1 ∧ ((σ 27 0 t0.toNat) + 1) < 1025 ∧ 0 ≤ σ 27 0 t0.toNat ∧ (σ 27 0 t0.toNat) < 1025 ∧ in32 ((σ 30 0 (((σ 27 0 t0.toNat) + 1).toNat)) - (σ 30 0 ((σ 27 0 t0.toNat).toNat)))) ∧ (((((σ 30 0 (((σ 27 0 t0.toNat) + 1).toNat)) - (σ 30 0 ((σ 27 0 t0.toNat).toNat))) = 1) → (WP mX9_allWith 0 [vR 10 0, vI t0, vI (σ 10 0 9), vI x2, vU, vU] [] σ (CT mX11_carried 100 [vR 12 0, vI x1, vU, vR 10 0, vU, vI (σ 27 0 t0.toNat), vU, vU, vU, vU] [] Q))) ∧ ((((σ 30 0 (((σ 27 0 t0.toNat) + 1).toNat)) - (σ 30 0 ((σ 27 0 t0.toNat).toNat))) ≠ 1) → (Q (.inl (some (vI (-1)))) σ))))))) : WP mX11_carried 49 [vR 12 0, vI x1, vI x2, vR 10 0, vU, vU, vU, vU, vU, vU] [vI t0] σ Q := by
  refine wp_istore dX11_carried_49 (by decide) rfl rfl ?_
  refine wp_aload_n dX11_carried_51 rfl rfl ?_
  refine wp_getR dX11_carried_52 fl_CustomValley_28 rfl rfl ?_
  refine wp_getR dX11_carried_55 fl_CustomValley_187 rfl rfl ?_
  refine wp_getR dX11_carried_58 fl_CustomValley_215 rfl rfl ?_
  refine wp_iload dX11_carried_61 rfl ?_
  have s2 := h.1
  replace h := h.2
  refine wp_iaload dX11_carried_63 rfl rfl s2.1 s2.2 ?_
  refine wp_istore dX11_carried_64 (by decide) rfl rfl ?_
  refine wp_iload dX11_carried_66 rfl ?_
  refine wp_if_lt (tgt := 87) dX11_carried_68 (by decide) (fun hc => ?_) (fun hc => ?_)
  · replace h := h.1 hc
    refine wp_iconst dX11_carried_87 rfl ?_
    exact wp_iret dX11_carried_88 rfl h
  · replace h := h.2 hc
    refine wp_aload_n dX11_carried_71 rfl rfl ?_
    refine wp_getR dX11_carried_72 fl_CustomValley_28 rfl rfl ?_
    refine wp_getR dX11_carried_75 fl_CustomValley_187 rfl rfl ?_
    refine wp_iload dX11_carried_78 rfl ?_
    have s1 := h.1
    replace h := h.2
    refine wp_invV (N := mX4_size) [vI (σ 27 0 t0.toNat)] dX11_carried_80 ml_CustomValley_203 mvX4_size rfl rfl rfl rfl rfl (Nat.le_of_ble_eq_true rfl) (Nat.le_of_ble_eq_true rfl) (by decide) (by decide) (by decide) ?_
    refine pb_X4_size s1 ?_
    show WP mX11_carried 83 [vR 12 0, vI x1, vI x2, vR 10 0, vI t0, vI (σ 27 0 t0.toNat), vU, vU, vU, vU] [vI ((σ 30 0 (((σ 27 0 t0.toNat) + 1).toNat)) - (σ 30 0 ((σ 27 0 t0.toNat).toNat)))] σ Q
    refine wp_iconst dX11_carried_83 rfl ?_
    refine wp_icmp_eq (tgt := 89) dX11_carried_84 (by decide) (fun hc => ?_) (fun hc => ?_)
    · replace h := h.1 hc
      refine wp_aload_n dX11_carried_89 rfl rfl ?_
      refine wp_iload dX11_carried_90 rfl ?_
      refine wp_aload_n dX11_carried_92 rfl rfl ?_
      refine wp_getI dX11_carried_93 fl_CustomValley_134 rfl rfl rfl ?_
      refine wp_iload_n dX11_carried_96 rfl rfl ?_
      refine wp_invV (N := mX9_allWith) [vI t0, vI (σ 10 0 9), vI x2] dX11_carried_97 ml_CustomValley_274 mvX9_allWith rfl rfl rfl rfl rfl (Nat.le_of_ble_eq_true rfl) (Nat.le_of_ble_eq_true rfl) (by decide) (by decide) (by decide) ?_
      exact WP.mono h (ct_drop (lle_c (Or.inl rfl) (lle_c (Or.inl rfl) (lle_c (Or.inr rfl) (lle_c (Or.inl rfl) (lle_c (Or.inr rfl) (lle_c (Or.inl rfl) (lle_c (Or.inl rfl) (lle_c (Or.inl rfl) (lle_c (Or.inl rfl) (lle_c (Or.inl rfl) lle_n)))))))))))
    · replace h := h.2 hc
      refine wp_iconst dX11_carried_87 rfl ?_
      exact wp_iret dX11_carried_88 rfl h
theorem b_X11_carried_100 {x1 : Int} {x5 : Int} {t0 : Int} {σ : St} {Q : Res → St → Prop} (h : WP mX11_carried 111 [vR 12 0, vI x1, vU, vR 10 0, vU, vI x5, vI t0, vI (σ 10 0 9), vI 0, vU] [] σ Q) : WP mX11_carried 100 [vR 12 0, vI x1, vU, vR 10 0, vU, vI x5, vU, vU, vU, vU] [vI t0] σ Q := by
  refine wp_istore dX11_carried_100 (by decide) rfl rfl ?_
  refine wp_aload_n dX11_carried_102 rfl rfl ?_
  refine wp_getI dX11_carried_103 fl_CustomValley_134 rfl rfl rfl ?_
  refine wp_istore dX11_carried_106 (by decide) rfl rfl ?_
  refine wp_iconst dX11_carried_108 rfl ?_
  refine wp_istore dX11_carried_109 (by decide) rfl rfl ?_
  exact h
theorem b_X11_carried_111 {x1 : Int} {x5 : Int} {x6 : Int} {x7 : Int} {x8 : Int} {σ : St} {Q : Res → St → Prop} (h : (((shl 1 (σ 10 0 0)) ≤ x8) → (Q (.inl (some (vI x7))) σ)) ∧ ((x8 < (shl 1 (σ 10 0 0))) → ((0 ≤ x8 ∧ x8 < 1024) ∧ ((0 ≤ x7 ∧ x7 < 1024) ∧ ((((bcnt x7) ≤ (bcnt x8)) → (WP mX11_carried 140 [vR 12 0, vI x1, vU, vR 10 0, vU, vI x5, vI x6, vI x7, vI x8, vU] [vI 0] σ Q)) ∧ (((bcnt x8) < (bcnt x7)) → (WP mX11_carried 140 [vR 12 0, vI x1, vU, vR 10 0, vU, vI x5, vI x6, vI x7, vI x8, vU] [vI 1] σ Q))))))) : WP mX11_carried 111 [vR 12 0, vI x1, vU, vR 10 0, vU, vI x5, vI x6, vI x7, vI x8, vU] [] σ Q := by
  refine wp_iload dX11_carried_111 rfl ?_
  refine wp_iconst dX11_carried_113 rfl ?_
  refine wp_aload_n dX11_carried_114 rfl rfl ?_
  refine wp_getI dX11_carried_115 fl_CustomValley_128 rfl rfl rfl ?_
  refine wp_ishl dX11_carried_118 ?_
  refine wp_icmp_ge (tgt := 194) dX11_carried_119 (by decide) (fun hc => ?_) (fun hc => ?_)
  · replace h := h.1 hc
    refine wp_iload dX11_carried_194 rfl ?_
    exact wp_iret dX11_carried_196 rfl h
  · replace h := h.2 hc
    refine wp_iload dX11_carried_122 rfl ?_
    have s2 := h.1
    replace h := h.2
    refine wp_invS (N := mJ6_bitCount_0f7a4) [vI x8] dX11_carried_124 ml_CustomValley_277 mvJ6_bitCount_0f7a4 rfl rfl rfl (Nat.le_of_ble_eq_true rfl) (Nat.le_of_ble_eq_true rfl) (by decide) (by decide) ?_
    refine pb_J6_bitCount_0f7a4 s2 ?_
    show WP mX11_carried 127 [vR 12 0, vI x1, vU, vR 10 0, vU, vI x5, vI x6, vI x7, vI x8, vU] [vI (bcnt x8)] σ Q
    refine wp_iload dX11_carried_127 rfl ?_
    have s1 := h.1
    replace h := h.2
    refine wp_invS (N := mJ6_bitCount_0f7a4) [vI x7] dX11_carried_129 ml_CustomValley_277 mvJ6_bitCount_0f7a4 rfl rfl rfl (Nat.le_of_ble_eq_true rfl) (Nat.le_of_ble_eq_true rfl) (by decide) (by decide) ?_
    refine pb_J6_bitCount_0f7a4 s1 ?_
    show WP mX11_carried 132 [vR 12 0, vI x1, vU, vR 10 0, vU, vI x5, vI x6, vI x7, vI x8, vU] [vI (bcnt x7), vI (bcnt x8)] σ Q
    refine wp_icmp_ge (tgt := 139) dX11_carried_132 (by decide) (fun hc => ?_) (fun hc => ?_)
    · replace h := h.1 hc
      refine wp_iconst dX11_carried_139 rfl ?_
      exact h
    · replace h := h.2 hc
      refine wp_iconst dX11_carried_135 rfl ?_
      refine wp_goto (tgt := 140) dX11_carried_136 (by decide) ?_
      exact h
theorem b_X11_carried_140 {x1 : Int} {x5 : Int} {x6 : Int} {x7 : Int} {x8 : Int} {t0 : Int} {σ : St} {Q : Res → St → Prop} (h : ((t0 = 0) → ((in32 (x8 + 1)) ∧ (WP mX11_carried 111 [vR 12 0, vI x1, vU, vR 10 0, vU, vI x5, vI x6, vI x7, vI (x8 + 1), vU] [] σ Q))) ∧ ((t0 ≠ 0) → ((((band x8 (bxor (σ 10 0 9) (-1))) ≠ 0) → ((in32 (x8 + 1)) ∧ (WP mX11_carried 111 [vR 12 0, vI x1, vU, vR 10 0, vU, vI x5, vI x6, vI x7, vI (x8 + 1), vU] [] σ Q))) ∧ (((band x8 (bxor (σ 10 0 9) (-1))) = 0) → (WP mX9_allWith 0 [vR 10 0, vI x6, vI x8, vI x1, vU, vU] [] σ (CT mX11_carried 178 [vR 12 0, vI x1, vU, vR 10 0, vU, vI x5, vI x6, vI x7, vI x8, vU] [vR 28 0] Q)))))) : WP mX11_carried 140 [vR 12 0, vI x1, vU, vR 10 0, vU, vI x5, vI x6, vI x7, vI x8, vU] [vI t0] σ Q := by
  refine wp_istore dX11_carried_140 (by decide) rfl rfl ?_
  refine wp_iload dX11_carried_142 rfl ?_
  refine wp_if_eq (tgt := 188) dX11_carried_144 (by decide) (fun hc => ?_) (fun hc => ?_)
  · replace h := h.1 hc
    have s1 := h.1
    replace h := h.2
    refine wp_iinc dX11_carried_188 rfl (by decide) rfl rfl ?_ (h1 := s1.1) (h2 := s1.2)
    refine wp_goto (tgt := 111) dX11_carried_191 (by decide) ?_
    exact wp_drop (als' := [vR 12 0, vI x1, vU, vR 10 0, vU, vI x5, vI x6, vI x7, vI (x8 + 1), vU]) (lle_c (Or.inl rfl) (lle_c (Or.inl rfl) (lle_c (Or.inl rfl) (lle_c (Or.inl rfl) (lle_c (Or.inl rfl) (lle_c (Or.inl rfl) (lle_c (Or.inl rfl) (lle_c (Or.inl rfl) (lle_c (Or.inl rfl) (lle_c (Or.inr rfl) lle_n)))))))))) h
  · replace h := h.2 hc
    refine wp_iload dX11_carried_147 rfl ?_
    refine wp_aload_n dX11_carried_149 rfl rfl ?_
    refine wp_getI dX11_carried_150 fl_CustomValley_134 rfl rfl rfl ?_
    refine wp_iconst dX11_carried_153 rfl ?_
    refine wp_ixor dX11_carried_154 ?_
    refine wp_iand dX11_carried_155 ?_
    refine wp_if_ne (tgt := 188) dX11_carried_156 (by decide) (fun hc => ?_) (fun hc => ?_)
    · replace h := h.1 hc
      have s2 := h.1
      replace h := h.2
      refine wp_iinc dX11_carried_188 rfl (by decide) rfl rfl ?_ (h1 := s2.1) (h2 := s2.2)
      refine wp_goto (tgt := 111) dX11_carried_191 (by decide) ?_
      exact wp_drop (als' := [vR 12 0, vI x1, vU, vR 10 0, vU, vI x5, vI x6, vI x7, vI (x8 + 1), vU]) (lle_c (Or.inl rfl) (lle_c (Or.inl rfl) (lle_c (Or.inl rfl) (lle_c (Or.inl rfl) (lle_c (Or.inl rfl) (lle_c (Or.inl rfl) (lle_c (Or.inl rfl) (lle_c (Or.inl rfl) (lle_c (Or.inl rfl) (lle_c (Or.inr rfl) lle_n)))))))))) h
    · replace h := h.2 hc
      refine wp_aload_n dX11_carried_159 rfl rfl ?_
      refine wp_getR dX11_carried_160 fl_CustomValley_28 rfl rfl ?_
      refine wp_getR dX11_carried_163 fl_CustomValley_187 rfl rfl ?_
      refine wp_getR dX11_carried_166 fl_CustomValley_282 rfl rfl ?_
      refine wp_aload_n dX11_carried_169 rfl rfl ?_
      refine wp_iload dX11_carried_170 rfl ?_
      refine wp_iload dX11_carried_172 rfl ?_
      refine wp_iload_n dX11_carried_174 rfl rfl ?_
      refine wp_invV (N := mX9_allWith) [vI x6, vI x8, vI x1] dX11_carried_175 ml_CustomValley_274 mvX9_allWith rfl rfl rfl rfl rfl (Nat.le_of_ble_eq_true rfl) (Nat.le_of_ble_eq_true rfl) (by decide) (by decide) (by decide) ?_
      exact WP.mono h (ct_drop (lle_c (Or.inl rfl) (lle_c (Or.inl rfl) (lle_c (Or.inl rfl) (lle_c (Or.inl rfl) (lle_c (Or.inl rfl) (lle_c (Or.inl rfl) (lle_c (Or.inl rfl) (lle_c (Or.inl rfl) (lle_c (Or.inl rfl) (lle_c (Or.inr rfl) lle_n)))))))))))
theorem b_X11_carried_178 {x1 : Int} {x5 : Int} {x6 : Int} {x7 : Int} {x8 : Int} {t0 : Int} {σ : St} {Q : Res → St → Prop} (h : (0 ≤ t0 ∧ t0 < 1024) ∧ ((((σ 28 0 t0.toNat) ≠ x5) → ((in32 (x8 + 1)) ∧ (WP mX11_carried 111 [vR 12 0, vI x1, vU, vR 10 0, vU, vI x5, vI x6, vI x7, vI (x8 + 1), vU] [] σ Q))) ∧ (((σ 28 0 t0.toNat) = x5) → ((in32 (x8 + 1)) ∧ (WP mX11_carried 111 [vR 12 0, vI x1, vU, vR 10 0, vU, vI x5, vI x6, vI x8, vI (x8 + 1), vU] [] σ Q))))) : WP mX11_carried 178 [vR 12 0, vI x1, vU, vR 10 0, vU, vI x5, vI x6, vI x7, vI x8, vU] [vI t0, vR 28 0] σ Q := by
  have s3 := h.1
  replace h := h.2
  refine wp_iaload dX11_carried_178 rfl rfl s3.1 s3.2 ?_
  refine wp_iload dX11_carried_179 rfl ?_
  refine wp_icmp_ne (tgt := 188) dX11_carried_181 (by decide) (fun hc => ?_) (fun hc => ?_)
  · replace h := h.1 hc
    have s1 := h.1
    replace h := h.2
    refine wp_iinc dX11_carried_188 rfl (by decide) rfl rfl ?_ (h1 := s1.1) (h2 := s1.2)
    refine wp_goto (tgt := 111) dX11_carried_191 (by decide) ?_
    exact h
  · replace h := h.2 hc
    refine wp_iload dX11_carried_184 rfl ?_
    refine wp_istore dX11_carried_186 (by decide) rfl rfl ?_
    have s2 := h.1
    replace h := h.2
    refine wp_iinc dX11_carried_188 rfl (by decide) rfl rfl ?_ (h1 := s2.1) (h2 := s2.2)
    refine wp_goto (tgt := 111) dX11_carried_191 (by decide) ?_
    exact h
theorem dX11_comes_0 : decode cX11_comes 0 = .ok (.aload_n 0, 1) := by decide +kernel
theorem dX11_comes_1 : decode cX11_comes 1 = .ok (.getfield 28, 3) := by decide +kernel
theorem dX11_comes_4 : decode cX11_comes 4 = .ok (.invokevirtual 165, 3) := by decide +kernel
theorem dX11_comes_7 : decode cX11_comes 7 = .ok (.aload_n 0, 1) := by decide +kernel
theorem dX11_comes_8 : decode cX11_comes 8 = .ok (.getfield 28, 3) := by decide +kernel
theorem dX11_comes_11 : decode cX11_comes 11 = .ok (.getfield 103, 3) := by decide +kernel
theorem dX11_comes_14 : decode cX11_comes 14 = .ok (.iload_n 1, 1) := by decide +kernel
theorem dX11_comes_15 : decode cX11_comes 15 = .ok (.invokevirtual 151, 3) := by decide +kernel
theorem dX11_comes_18 : decode cX11_comes 18 = .ok (.ifCond .eq 17, 3) := by decide +kernel
theorem dX11_comes_21 : decode cX11_comes 21 = .ok (.aload_n 0, 1) := by decide +kernel
theorem dX11_comes_22 : decode cX11_comes 22 = .ok (.getfield 28, 3) := by decide +kernel
theorem dX11_comes_25 : decode cX11_comes 25 = .ok (.getfield 187, 3) := by decide +kernel
theorem dX11_comes_28 : decode cX11_comes 28 = .ok (.iload_n 2, 1) := by decide +kernel
theorem dX11_comes_29 : decode cX11_comes 29 = .ok (.invokevirtual 196, 3) := by decide +kernel
theorem dX11_comes_32 : decode cX11_comes 32 = .ok (.ifCond .ne 6, 3) := by decide +kernel
theorem dX11_comes_35 : decode cX11_comes 35 = .ok (.bipush (-2), 2) := by decide +kernel
theorem dX11_comes_37 : decode cX11_comes 37 = .ok (.ireturn, 1) := by decide +kernel
theorem dX11_comes_38 : decode cX11_comes 38 = .ok (.aload_n 0, 1) := by decide +kernel
theorem dX11_comes_39 : decode cX11_comes 39 = .ok (.iload_n 2, 1) := by decide +kernel
theorem dX11_comes_40 : decode cX11_comes 40 = .ok (.invokevirtual 218, 3) := by decide +kernel
theorem dX11_comes_43 : decode cX11_comes 43 = .ok (.aload_n 0, 1) := by decide +kernel
theorem dX11_comes_44 : decode cX11_comes 44 = .ok (.getfield 42, 3) := by decide +kernel
theorem dX11_comes_47 : decode cX11_comes 47 = .ok (.getfield 221, 3) := by decide +kernel
theorem dX11_comes_50 : decode cX11_comes 50 = .ok (.iload_n 1, 1) := by decide +kernel
theorem dX11_comes_51 : decode cX11_comes 51 = .ok (.iaload, 1) := by decide +kernel
theorem dX11_comes_52 : decode cX11_comes 52 = .ok (.ifCond .ne 7, 3) := by decide +kernel
theorem dX11_comes_55 : decode cX11_comes 55 = .ok (.iconst 1, 1) := by decide +kernel
theorem dX11_comes_56 : decode cX11_comes 56 = .ok (.goto 4, 3) := by decide +kernel
theorem dX11_comes_59 : decode cX11_comes 59 = .ok (.iconst 0, 1) := by decide +kernel
theorem dX11_comes_60 : decode cX11_comes 60 = .ok (.ireturn, 1) := by decide +kernel
theorem b_X11_comes_0 {x1 : Int} {x2 : Int} {σ : St} {Q : Res → St → Prop} (h : WP mX1_ready 0 [vR 2 0] [] σ (CT mX11_comes 7 [vR 12 0, vI x1, vI x2] [] Q)) : WP mX11_comes 0 [vR 12 0, vI x1, vI x2] [] σ Q := by
  refine wp_aload_n dX11_comes_0 rfl rfl ?_
  refine wp_getR dX11_comes_1 fl_CustomValley_28 rfl rfl ?_
  refine wp_invV (N := mX1_ready) [] dX11_comes_4 ml_CustomValley_165 mvX1_ready rfl rfl rfl rfl rfl (Nat.le_of_ble_eq_true rfl) (Nat.le_of_ble_eq_true rfl) (by decide) (by decide) (by decide) ?_
  exact h
theorem b_X11_comes_7 {x1 : Int} {x2 : Int} {σ : St} {Q : Res → St → Prop} (h : WP mX9_isState 0 [vR 10 0, vI x1, vU] [] σ (CT mX11_comes 18 [vR 12 0, vI x1, vI x2] [] Q)) : WP mX11_comes 7 [vR 12 0, vI x1, vI x2] [] σ Q := by
  refine wp_aload_n dX11_comes_7 rfl rfl ?_
  refine wp_getR dX11_comes_8 fl_CustomValley_28 rfl rfl ?_
  refine wp_getR dX11_comes_11 fl_CustomValley_103 rfl rfl ?_
  refine wp_iload_n dX11_comes_14 rfl rfl ?_
  refine wp_invV (N := mX9_isState) [vI x1] dX11_comes_15 ml_CustomValley_151 mvX9_isState rfl rfl rfl rfl rfl (Nat.le_of_ble_eq_true rfl) (Nat.le_of_ble_eq_true rfl) (by decide) (by decide) (by decide) ?_
  exact h
theorem b_X11_comes_18 {x1 : Int} {x2 : Int} {t0 : Int} {σ : St} {Q : Res → St → Prop} (h : ((t0 = 0) → (Q (.inl (some (vI (-2)))) σ)) ∧ ((t0 ≠ 0) → (((0 ≤ x2 ∧ x2 < (σ 5 0 0)) → (WP mX11_aimAt 0 [vR 12 0, vI x2] [] σ (CT mX11_comes 43 [vR 12 0, vI x1, vU] [] Q))) ∧ ((¬ (0 ≤ x2 ∧ x2 < (σ 5 0 0))) → (Q (.inl (some (vI (-2)))) σ))))) : WP mX11_comes 18 [vR 12 0, vI x1, vI x2] [vI t0] σ Q := by
  refine wp_if_eq (tgt := 35) dX11_comes_18 (by decide) (fun hc => ?_) (fun hc => ?_)
  · replace h := h.1 hc
    refine wp_bipush dX11_comes_35 rfl ?_
    exact wp_iret dX11_comes_37 rfl h
  · replace h := h.2 hc
    refine wp_aload_n dX11_comes_21 rfl rfl ?_
    refine wp_getR dX11_comes_22 fl_CustomValley_28 rfl rfl ?_
    refine wp_getR dX11_comes_25 fl_CustomValley_187 rfl rfl ?_
    refine wp_iload_n dX11_comes_28 rfl rfl ?_
    refine wp_invV (N := mX4_has) [vI x2] dX11_comes_29 ml_CustomValley_196 mvX4_has rfl rfl rfl rfl rfl (Nat.le_of_ble_eq_true rfl) (Nat.le_of_ble_eq_true rfl) (by decide) (by decide) (by decide) ?_
    refine pb_X4_has (by trivial) ?_
    show WP mX11_comes 32 [vR 12 0, vI x1, vI x2] [vI (b2 (0 ≤ x2 ∧ x2 < (σ 5 0 0)))] σ Q
    refine wp_if_ne (tgt := 38) dX11_comes_32 (by decide) (fun hc => ?_) (fun hc => ?_)
    · replace h := h.1 (b2_ne hc)
      refine wp_aload_n dX11_comes_38 rfl rfl ?_
      refine wp_iload_n dX11_comes_39 rfl rfl ?_
      refine wp_invV (N := mX11_aimAt) [vI x2] dX11_comes_40 ml_CustomValley_218 mvX11_aimAt rfl rfl rfl rfl rfl (Nat.le_of_ble_eq_true rfl) (Nat.le_of_ble_eq_true rfl) (by decide) (by decide) (by decide) ?_
      exact WP.mono h (ct_drop (lle_c (Or.inl rfl) (lle_c (Or.inl rfl) (lle_c (Or.inr rfl) lle_n))))
    · replace h := h.2 (b2_eq hc)
      refine wp_bipush dX11_comes_35 rfl ?_
      exact wp_iret dX11_comes_37 rfl h
theorem b_X11_comes_43 {x1 : Int} {σ : St} {Q : Res → St → Prop} (h : (0 ≤ x1 ∧ x1 < 1024) ∧ ((((σ 37 1 x1.toNat) ≠ 0) → (Q (.inl (some (vI 0))) σ)) ∧ (((σ 37 1 x1.toNat) = 0) → (Q (.inl (some (vI 1))) σ)))) : WP mX11_comes 43 [vR 12 0, vI x1, vU] [] σ Q := by
  refine wp_aload_n dX11_comes_43 rfl rfl ?_
  refine wp_getR dX11_comes_44 fl_CustomValley_42 rfl rfl ?_
  refine wp_getR dX11_comes_47 fl_CustomValley_221 rfl rfl ?_
  refine wp_iload_n dX11_comes_50 rfl rfl ?_
  have s1 := h.1
  replace h := h.2
  refine wp_iaload dX11_comes_51 rfl rfl s1.1 s1.2 ?_
  refine wp_if_ne (tgt := 59) dX11_comes_52 (by decide) (fun hc => ?_) (fun hc => ?_)
  · replace h := h.1 hc
    refine wp_iconst dX11_comes_59 rfl ?_
    exact wp_iret dX11_comes_60 rfl h
  · replace h := h.2 hc
    refine wp_iconst dX11_comes_55 rfl ?_
    refine wp_goto (tgt := 60) dX11_comes_56 (by decide) ?_
    exact wp_iret dX11_comes_60 rfl h
theorem dX11_coradius_0 : decode cX11_coradius 0 = .ok (.aload_n 0, 1) := by decide +kernel
theorem dX11_coradius_1 : decode cX11_coradius 1 = .ok (.getfield 28, 3) := by decide +kernel
theorem dX11_coradius_4 : decode cX11_coradius 4 = .ok (.invokevirtual 165, 3) := by decide +kernel
theorem dX11_coradius_7 : decode cX11_coradius 7 = .ok (.aload_n 0, 1) := by decide +kernel
theorem dX11_coradius_8 : decode cX11_coradius 8 = .ok (.getfield 28, 3) := by decide +kernel
theorem dX11_coradius_11 : decode cX11_coradius 11 = .ok (.getfield 187, 3) := by decide +kernel
theorem dX11_coradius_14 : decode cX11_coradius 14 = .ok (.iload_n 1, 1) := by decide +kernel
theorem dX11_coradius_15 : decode cX11_coradius 15 = .ok (.invokevirtual 196, 3) := by decide +kernel
theorem dX11_coradius_18 : decode cX11_coradius 18 = .ok (.ifCond .eq 11, 3) := by decide +kernel
theorem dX11_coradius_21 : decode cX11_coradius 21 = .ok (.aload_n 0, 1) := by decide +kernel
theorem dX11_coradius_22 : decode cX11_coradius 22 = .ok (.iload_n 1, 1) := by decide +kernel
theorem dX11_coradius_23 : decode cX11_coradius 23 = .ok (.invokevirtual 261, 3) := by decide +kernel
theorem dX11_coradius_26 : decode cX11_coradius 26 = .ok (.goto 5, 3) := by decide +kernel
theorem dX11_coradius_29 : decode cX11_coradius 29 = .ok (.bipush (-2), 2) := by decide +kernel
theorem dX11_coradius_31 : decode cX11_coradius 31 = .ok (.ireturn, 1) := by decide +kernel
theorem b_X11_coradius_0 {x1 : Int} {σ : St} {Q : Res → St → Prop} (h : WP mX1_ready 0 [vR 2 0] [] σ (CT mX11_coradius 7 [vR 12 0, vI x1] [] Q)) : WP mX11_coradius 0 [vR 12 0, vI x1] [] σ Q := by
  refine wp_aload_n dX11_coradius_0 rfl rfl ?_
  refine wp_getR dX11_coradius_1 fl_CustomValley_28 rfl rfl ?_
  refine wp_invV (N := mX1_ready) [] dX11_coradius_4 ml_CustomValley_165 mvX1_ready rfl rfl rfl rfl rfl (Nat.le_of_ble_eq_true rfl) (Nat.le_of_ble_eq_true rfl) (by decide) (by decide) (by decide) ?_
  exact h
theorem b_X11_coradius_7 {x1 : Int} {σ : St} {Q : Res → St → Prop} (h : ((¬ (0 ≤ x1 ∧ x1 < (σ 5 0 0))) → (Q (.inl (some (vI (-2)))) σ)) ∧ ((0 ≤ x1 ∧ x1 < (σ 5 0 0)) → (WP mX11_farthest 0 [vR 12 0, vI x1, vU, vU] [] σ (CT mX11_coradius 26 [vU, vU] [] Q)))) : WP mX11_coradius 7 [vR 12 0, vI x1] [] σ Q := by
  refine wp_aload_n dX11_coradius_7 rfl rfl ?_
  refine wp_getR dX11_coradius_8 fl_CustomValley_28 rfl rfl ?_
  refine wp_getR dX11_coradius_11 fl_CustomValley_187 rfl rfl ?_
  refine wp_iload_n dX11_coradius_14 rfl rfl ?_
  refine wp_invV (N := mX4_has) [vI x1] dX11_coradius_15 ml_CustomValley_196 mvX4_has rfl rfl rfl rfl rfl (Nat.le_of_ble_eq_true rfl) (Nat.le_of_ble_eq_true rfl) (by decide) (by decide) (by decide) ?_
  refine pb_X4_has (by trivial) ?_
  show WP mX11_coradius 18 [vR 12 0, vI x1] [vI (b2 (0 ≤ x1 ∧ x1 < (σ 5 0 0)))] σ Q
  refine wp_if_eq (tgt := 29) dX11_coradius_18 (by decide) (fun hc => ?_) (fun hc => ?_)
  · replace h := h.1 (b2_eq hc)
    refine wp_bipush dX11_coradius_29 rfl ?_
    exact wp_iret dX11_coradius_31 rfl h
  · replace h := h.2 (b2_ne hc)
    refine wp_aload_n dX11_coradius_21 rfl rfl ?_
    refine wp_iload_n dX11_coradius_22 rfl rfl ?_
    refine wp_invV (N := mX11_farthest) [vI x1] dX11_coradius_23 ml_CustomValley_261 mvX11_farthest rfl rfl rfl rfl rfl (Nat.le_of_ble_eq_true rfl) (Nat.le_of_ble_eq_true rfl) (by decide) (by decide) (by decide) ?_
    exact WP.mono h (ct_drop (lle_c (Or.inr rfl) (lle_c (Or.inr rfl) lle_n)))
theorem b_X11_coradius_26 {t0 : Int} {σ : St} {Q : Res → St → Prop} (h : Q (.inl (some (vI t0))) σ) : WP mX11_coradius 26 [vU, vU] [vI t0] σ Q := by
  refine wp_goto (tgt := 31) dX11_coradius_26 (by decide) ?_
  exact wp_iret dX11_coradius_31 rfl h
theorem dX11_explained_0 : decode cX11_explained 0 = .ok (.iload_n 1, 1) := by decide +kernel
theorem dX11_explained_1 : decode cX11_explained 1 = .ok (.ifCond .lt 19, 3) := by decide +kernel
theorem dX11_explained_4 : decode cX11_explained 4 = .ok (.iload_n 1, 1) := by decide +kernel
theorem dX11_explained_5 : decode cX11_explained 5 = .ok (.sipush 999, 3) := by decide +kernel
theorem dX11_explained_8 : decode cX11_explained 8 = .ok (.if_icmp .gt 12, 3) := by decide +kernel
theorem dX11_explained_11 : decode cX11_explained 11 = .ok (.iload_n 2, 1) := by decide +kernel
theorem dX11_explained_12 : decode cX11_explained 12 = .ok (.ifCond .lt 8, 3) := by decide +kernel
theorem dX11_explained_15 : decode cX11_explained 15 = .ok (.iload_n 2, 1) := by decide +kernel
theorem dX11_explained_16 : decode cX11_explained 16 = .ok (.iconst 2, 1) := by decide +kernel
theorem dX11_explained_17 : decode cX11_explained 17 = .ok (.if_icmp .le 6, 3) := by decide +kernel
theorem dX11_explained_20 : decode cX11_explained 20 = .ok (.bipush (-2), 2) := by decide +kernel
theorem dX11_explained_22 : decode cX11_explained 22 = .ok (.ireturn, 1) := by decide +kernel
theorem dX11_explained_23 : decode cX11_explained 23 = .ok (.aload_n 0, 1) := by decide +kernel
theorem dX11_explained_24 : decode cX11_explained 24 = .ok (.iload_n 1, 1) := by decide +kernel
theorem dX11_explained_25 : decode cX11_explained 25 = .ok (.iload_n 2, 1) := by decide +kernel
theorem dX11_explained_26 : decode cX11_explained 26 = .ok (.invokevirtual 353, 3) := by decide +kernel
theorem dX11_explained_29 : decode cX11_explained 29 = .ok (.istore_n 3, 1) := by decide +kernel
theorem dX11_explained_30 : decode cX11_explained 30 = .ok (.iload_n 3, 1) := by decide +kernel
theorem dX11_explained_31 : decode cX11_explained 31 = .ok (.ldc 228, 2) := by decide +kernel
theorem dX11_explained_33 : decode cX11_explained 33 = .ok (.if_icmp .ge 7, 3) := by decide +kernel
theorem dX11_explained_36 : decode cX11_explained 36 = .ok (.iload_n 3, 1) := by decide +kernel
theorem dX11_explained_37 : decode cX11_explained 37 = .ok (.goto 4, 3) := by decide +kernel
theorem dX11_explained_40 : decode cX11_explained 40 = .ok (.iconst (-1), 1) := by decide +kernel
theorem dX11_explained_41 : decode cX11_explained 41 = .ok (.ireturn, 1) := by decide +kernel
theorem b_X11_explained_0 {x1 : Int} {x2 : Int} {σ : St} {Q : Res → St → Prop} (h : ((x1 < 0) → (Q (.inl (some (vI (-2)))) σ)) ∧ ((0 ≤ x1) → (((999 < x1) → (Q (.inl (some (vI (-2)))) σ)) ∧ ((x1 ≤ 999) → (((x2 < 0) → (Q (.inl (some (vI (-2)))) σ)) ∧ ((0 ≤ x2) → (((x2 ≤ 2) → (WP mX11_slipsSeen 0 [vR 12 0, vI x1, vI x2, vU, vU, vU, vU, vU] [] σ (CT mX11_explained 29 [vU, vU, vU, vU] [] Q))) ∧ ((2 < x2) → (Q (.inl (some (vI (-2)))) σ))))))))) : WP mX11_explained 0 [vR 12 0, vI x1, vI x2, vU] [] σ Q := by
  refine wp_iload_n dX11_explained_0 rfl rfl ?_
  refine wp_if_lt (tgt := 20) dX11_explained_1 (by decide) (fun hc => ?_) (fun hc => ?_)
  · replace h := h.1 hc
    refine wp_bipush dX11_explained_20 rfl ?_
    exact wp_iret dX11_explained_22 rfl h
  · replace h := h.2 hc
    refine wp_iload_n dX11_explained_4 rfl rfl ?_
    refine wp_sipush dX11_explained_5 rfl ?_
    refine wp_icmp_gt (tgt := 20) dX11_explained_8 (by decide) (fun hc => ?_) (fun hc => ?_)
    · replace h := h.1 hc
      refine wp_bipush dX11_explained_20 rfl ?_
      exact wp_iret dX11_explained_22 rfl h
    · replace h := h.2 hc
      refine wp_iload_n dX11_explained_11 rfl rfl ?_
      refine wp_if_lt (tgt := 20) dX11_explained_12 (by decide) (fun hc => ?_) (fun hc => ?_)
      · replace h := h.1 hc
        refine wp_bipush dX11_explained_20 rfl ?_
        exact wp_iret dX11_explained_22 rfl h
      · replace h := h.2 hc
        refine wp_iload_n dX11_explained_15 rfl rfl ?_
        refine wp_iconst dX11_explained_16 rfl ?_
        refine wp_icmp_le (tgt := 23) dX11_explained_17 (by decide) (fun hc => ?_) (fun hc => ?_)
        · replace h := h.1 hc
          refine wp_aload_n dX11_explained_23 rfl rfl ?_
          refine wp_iload_n dX11_explained_24 rfl rfl ?_
          refine wp_iload_n dX11_explained_25 rfl rfl ?_
          refine wp_invV (N := mX11_slipsSeen) [vI x1, vI x2] dX11_explained_26 ml_CustomValley_353 mvX11_slipsSeen rfl rfl rfl rfl rfl (Nat.le_of_ble_eq_true rfl) (Nat.le_of_ble_eq_true rfl) (by decide) (by decide) (by decide) ?_
          exact WP.mono h (ct_drop (lle_c (Or.inr rfl) (lle_c (Or.inr rfl) (lle_c (Or.inr rfl) (lle_c (Or.inl rfl) lle_n)))))
        · replace h := h.2 hc
          refine wp_bipush dX11_explained_20 rfl ?_
          exact wp_iret dX11_explained_22 rfl h
theorem b_X11_explained_29 {t0 : Int} {σ : St} {Q : Res → St → Prop} (h : ((1000000 ≤ t0) → (Q (.inl (some (vI (-1)))) σ)) ∧ ((t0 < 1000000) → (Q (.inl (some (vI t0))) σ))) : WP mX11_explained 29 [vU, vU, vU, vU] [vI t0] σ Q := by
  refine wp_istore_n dX11_explained_29 rfl (by decide) rfl rfl ?_
  refine wp_iload_n dX11_explained_30 rfl rfl ?_
  refine wp_ldc (n := 1000000) dX11_explained_31 ck_CustomValley_228 rfl ?_
  refine wp_icmp_ge (tgt := 40) dX11_explained_33 (by decide) (fun hc => ?_) (fun hc => ?_)
  · replace h := h.1 hc
    refine wp_iconst dX11_explained_40 rfl ?_
    exact wp_iret dX11_explained_41 rfl h
  · replace h := h.2 hc
    refine wp_iload_n dX11_explained_36 rfl rfl ?_
    refine wp_goto (tgt := 41) dX11_explained_37 (by decide) ?_
    exact wp_iret dX11_explained_41 rfl h
theorem dX11_fewest_0 : decode cX11_fewest 0 = .ok (.aload_n 0, 1) := by decide +kernel
theorem dX11_fewest_1 : decode cX11_fewest 1 = .ok (.getfield 28, 3) := by decide +kernel
theorem dX11_fewest_4 : decode cX11_fewest 4 = .ok (.getfield 103, 3) := by decide +kernel
theorem dX11_fewest_7 : decode cX11_fewest 7 = .ok (.iload_n 1, 1) := by decide +kernel
theorem dX11_fewest_8 : decode cX11_fewest 8 = .ok (.invokevirtual 151, 3) := by decide +kernel
theorem dX11_fewest_11 : decode cX11_fewest 11 = .ok (.ifCond .eq 17, 3) := by decide +kernel
theorem dX11_fewest_14 : decode cX11_fewest 14 = .ok (.aload_n 0, 1) := by decide +kernel
theorem dX11_fewest_15 : decode cX11_fewest 15 = .ok (.getfield 28, 3) := by decide +kernel
theorem dX11_fewest_18 : decode cX11_fewest 18 = .ok (.getfield 103, 3) := by decide +kernel
theorem dX11_fewest_21 : decode cX11_fewest 21 = .ok (.iload_n 2, 1) := by decide +kernel
theorem dX11_fewest_22 : decode cX11_fewest 22 = .ok (.invokevirtual 151, 3) := by decide +kernel
theorem dX11_fewest_25 : decode cX11_fewest 25 = .ok (.ifCond .ne 6, 3) := by decide +kernel
theorem dX11_fewest_28 : decode cX11_fewest 28 = .ok (.bipush (-2), 2) := by decide +kernel
theorem dX11_fewest_30 : decode cX11_fewest 30 = .ok (.ireturn, 1) := by decide +kernel
theorem dX11_fewest_31 : decode cX11_fewest 31 = .ok (.aload_n 0, 1) := by decide +kernel
theorem dX11_fewest_32 : decode cX11_fewest 32 = .ok (.getfield 28, 3) := by decide +kernel
theorem dX11_fewest_35 : decode cX11_fewest 35 = .ok (.invokevirtual 165, 3) := by decide +kernel
theorem dX11_fewest_38 : decode cX11_fewest 38 = .ok (.aload_n 0, 1) := by decide +kernel
theorem dX11_fewest_39 : decode cX11_fewest 39 = .ok (.getfield 38, 3) := by decide +kernel
theorem dX11_fewest_42 : decode cX11_fewest 42 = .ok (.aload_n 0, 1) := by decide +kernel
theorem dX11_fewest_43 : decode cX11_fewest 43 = .ok (.getfield 28, 3) := by decide +kernel
theorem dX11_fewest_46 : decode cX11_fewest 46 = .ok (.iload_n 2, 1) := by decide +kernel
theorem dX11_fewest_47 : decode cX11_fewest 47 = .ok (.iload_n 1, 1) := by decide +kernel
theorem dX11_fewest_48 : decode cX11_fewest 48 = .ok (.invokevirtual 224, 3) := by decide +kernel
theorem dX11_fewest_51 : decode cX11_fewest 51 = .ok (.istore_n 3, 1) := by decide +kernel
theorem dX11_fewest_52 : decode cX11_fewest 52 = .ok (.iload_n 3, 1) := by decide +kernel
theorem dX11_fewest_53 : decode cX11_fewest 53 = .ok (.ldc 228, 2) := by decide +kernel
theorem dX11_fewest_55 : decode cX11_fewest 55 = .ok (.if_icmp .lt 5, 3) := by decide +kernel
theorem dX11_fewest_58 : decode cX11_fewest 58 = .ok (.iconst (-1), 1) := by decide +kernel
theorem dX11_fewest_59 : decode cX11_fewest 59 = .ok (.ireturn, 1) := by decide +kernel
theorem dX11_fewest_60 : decode cX11_fewest 60 = .ok (.aload_n 0, 1) := by decide +kernel
theorem dX11_fewest_61 : decode cX11_fewest 61 = .ok (.getfield 38, 3) := by decide +kernel
theorem dX11_fewest_64 : decode cX11_fewest 64 = .ok (.aload_n 0, 1) := by decide +kernel
theorem dX11_fewest_65 : decode cX11_fewest 65 = .ok (.getfield 28, 3) := by decide +kernel
theorem dX11_fewest_68 : decode cX11_fewest 68 = .ok (.iload_n 2, 1) := by decide +kernel
theorem dX11_fewest_69 : decode cX11_fewest 69 = .ok (.iload_n 1, 1) := by decide +kernel
theorem dX11_fewest_70 : decode cX11_fewest 70 = .ok (.invokevirtual 229, 3) := by decide +kernel
theorem dX11_fewest_73 : decode cX11_fewest 73 = .ok (.aload_n 0, 1) := by decide +kernel
theorem dX11_fewest_74 : decode cX11_fewest 74 = .ok (.aload_n 0, 1) := by decide +kernel
theorem dX11_fewest_75 : decode cX11_fewest 75 = .ok (.getfield 38, 3) := by decide +kernel
theorem dX11_fewest_78 : decode cX11_fewest 78 = .ok (.aload_n 0, 1) := by decide +kernel
theorem dX11_fewest_79 : decode cX11_fewest 79 = .ok (.getfield 28, 3) := by decide +kernel
theorem dX11_fewest_82 : decode cX11_fewest 82 = .ok (.iload_n 1, 1) := by decide +kernel
theorem dX11_fewest_83 : decode cX11_fewest 83 = .ok (.aload_n 0, 1) := by decide +kernel
theorem dX11_fewest_84 : decode cX11_fewest 84 = .ok (.getfield 76, 3) := by decide +kernel
theorem dX11_fewest_87 : decode cX11_fewest 87 = .ok (.invokevirtual 233, 3) := by decide +kernel
theorem dX11_fewest_90 : decode cX11_fewest 90 = .ok (.putfield 237, 3) := by decide +kernel
theorem dX11_fewest_93 : decode cX11_fewest 93 = .ok (.iload_n 3, 1) := by decide +kernel
theorem dX11_fewest_94 : decode cX11_fewest 94 = .ok (.ireturn, 1) := by decide +kernel
theorem b_X11_fewest_0 {x1 : Int} {x2 : Int} {σ : St} {Q : Res → St → Prop} (h : WP mX9_isState 0 [vR 10 0, vI x1, vU] [] σ (CT mX11_fewest 11 [vR 12 0, vI x1, vI x2, vU] [] Q)) : WP mX11_fewest 0 [vR 12 0, vI x1, vI x2, vU] [] σ Q := by
  refine wp_aload_n dX11_fewest_0 rfl rfl ?_
  refine wp_getR dX11_fewest_1 fl_CustomValley_28 rfl rfl ?_
  refine wp_getR dX11_fewest_4 fl_CustomValley_103 rfl rfl ?_
  refine wp_iload_n dX11_fewest_7 rfl rfl ?_
  refine wp_invV (N := mX9_isState) [vI x1] dX11_fewest_8 ml_CustomValley_151 mvX9_isState rfl rfl rfl rfl rfl (Nat.le_of_ble_eq_true rfl) (Nat.le_of_ble_eq_true rfl) (by decide) (by decide) (by decide) ?_
  exact h
theorem b_X11_fewest_11 {x1 : Int} {x2 : Int} {t0 : Int} {σ : St} {Q : Res → St → Prop} (h : ((t0 = 0) → (Q (.inl (some (vI (-2)))) σ)) ∧ ((t0 ≠ 0) → (WP mX9_isState 0 [vR 10 0, vI x2, vU] [] σ (CT mX11_fewest 25 [vR 12 0, vI x1, vI x2, vU] [] Q)))) : WP mX11_fewest 11 [vR 12 0, vI x1, vI x2, vU] [vI t0] σ Q := by
  refine wp_if_eq (tgt := 28) dX11_fewest_11 (by decide) (fun hc => ?_) (fun hc => ?_)
  · replace h := h.1 hc
    refine wp_bipush dX11_fewest_28 rfl ?_
    exact wp_iret dX11_fewest_30 rfl h
  · replace h := h.2 hc
    refine wp_aload_n dX11_fewest_14 rfl rfl ?_
    refine wp_getR dX11_fewest_15 fl_CustomValley_28 rfl rfl ?_
    refine wp_getR dX11_fewest_18 fl_CustomValley_103 rfl rfl ?_
    refine wp_iload_n dX11_fewest_21 rfl rfl ?_
    refine wp_invV (N := mX9_isState) [vI x2] dX11_fewest_22 ml_CustomValley_151 mvX9_isState rfl rfl rfl rfl rfl (Nat.le_of_ble_eq_true rfl) (Nat.le_of_ble_eq_true rfl) (by decide) (by decide) (by decide) ?_
    exact h
theorem b_X11_fewest_25 {x1 : Int} {x2 : Int} {t0 : Int} {σ : St} {Q : Res → St → Prop} (h : ((t0 ≠ 0) → (WP mX1_ready 0 [vR 2 0] [] σ (CT mX11_fewest 38 [vR 12 0, vI x1, vI x2, vU] [] Q))) ∧ ((t0 = 0) → (Q (.inl (some (vI (-2)))) σ))) : WP mX11_fewest 25 [vR 12 0, vI x1, vI x2, vU] [vI t0] σ Q := by
  refine wp_if_ne (tgt := 31) dX11_fewest_25 (by decide) (fun hc => ?_) (fun hc => ?_)
  · replace h := h.1 hc
    refine wp_aload_n dX11_fewest_31 rfl rfl ?_
    refine wp_getR dX11_fewest_32 fl_CustomValley_28 rfl rfl ?_
    refine wp_invV (N := mX1_ready) [] dX11_fewest_35 ml_CustomValley_165 mvX1_ready rfl rfl rfl rfl rfl (Nat.le_of_ble_eq_true rfl) (Nat.le_of_ble_eq_true rfl) (by decide) (by decide) (by decide) ?_
    exact h
  · replace h := h.2 hc
    refine wp_bipush dX11_fewest_28 rfl ?_
    exact wp_iret dX11_fewest_30 rfl h
theorem b_X11_fewest_38 {x1 : Int} {x2 : Int} {σ : St} {Q : Res → St → Prop} (h : WP mX5_toState 0 [vR 6 0, vR 2 0, vI x2, vI x1, vU] [] σ (CT mX11_fewest 51 [vR 12 0, vI x1, vI x2, vU] [] Q)) : WP mX11_fewest 38 [vR 12 0, vI x1, vI x2, vU] [] σ Q := by
  refine wp_aload_n dX11_fewest_38 rfl rfl ?_
  refine wp_getR dX11_fewest_39 fl_CustomValley_38 rfl rfl ?_
  refine wp_aload_n dX11_fewest_42 rfl rfl ?_
  refine wp_getR dX11_fewest_43 fl_CustomValley_28 rfl rfl ?_
  refine wp_iload_n dX11_fewest_46 rfl rfl ?_
  refine wp_iload_n dX11_fewest_47 rfl rfl ?_
  refine wp_invV (N := mX5_toState) [vR 2 0, vI x2, vI x1] dX11_fewest_48 ml_CustomValley_224 mvX5_toState rfl rfl rfl rfl rfl (Nat.le_of_ble_eq_true rfl) (Nat.le_of_ble_eq_true rfl) (by decide) (by decide) (by decide) ?_
  exact h
theorem b_X11_fewest_51 {x1 : Int} {x2 : Int} {t0 : Int} {σ : St} {Q : Res → St → Prop} (h : ((t0 < 1000000) → (WP mX5_countMoves 0 [vR 6 0, vR 2 0, vI x2, vI x1, vU] [] σ (CT mX11_fewest 73 [vR 12 0, vI x1, vU, vI t0] [] Q))) ∧ ((1000000 ≤ t0) → (Q (.inl (some (vI (-1)))) σ))) : WP mX11_fewest 51 [vR 12 0, vI x1, vI x2, vU] [vI t0] σ Q := by
  refine wp_istore_n dX11_fewest_51 rfl (by decide) rfl rfl ?_
  refine wp_iload_n dX11_fewest_52 rfl rfl ?_
  refine wp_ldc (n := 1000000) dX11_fewest_53 ck_CustomValley_228 rfl ?_
  refine wp_icmp_lt (tgt := 60) dX11_fewest_55 (by decide) (fun hc => ?_) (fun hc => ?_)
  · replace h := h.1 hc
    refine wp_aload_n dX11_fewest_60 rfl rfl ?_
    refine wp_getR dX11_fewest_61 fl_CustomValley_38 rfl rfl ?_
    refine wp_aload_n dX11_fewest_64 rfl rfl ?_
    refine wp_getR dX11_fewest_65 fl_CustomValley_28 rfl rfl ?_
    refine wp_iload_n dX11_fewest_68 rfl rfl ?_
    refine wp_iload_n dX11_fewest_69 rfl rfl ?_
    refine wp_invV (N := mX5_countMoves) [vR 2 0, vI x2, vI x1] dX11_fewest_70 ml_CustomValley_229 mvX5_countMoves rfl rfl rfl rfl rfl (Nat.le_of_ble_eq_true rfl) (Nat.le_of_ble_eq_true rfl) (by decide) (by decide) (by decide) ?_
    exact WP.mono h (ct_drop (lle_c (Or.inl rfl) (lle_c (Or.inl rfl) (lle_c (Or.inr rfl) (lle_c (Or.inl rfl) lle_n)))))
  · replace h := h.2 hc
    refine wp_iconst dX11_fewest_58 rfl ?_
    exact wp_iret dX11_fewest_59 rfl h
theorem b_X11_fewest_73 {x1 : Int} {x3 : Int} {σ : St} {Q : Res → St → Prop} (h : WP mX5_trace 0 [vR 6 0, vR 2 0, vI x1, vR 63 0, vU, vU, vU] [] σ (CT mX11_fewest 90 [vU, vU, vU, vI x3] [vR 12 0] Q)) : WP mX11_fewest 73 [vR 12 0, vI x1, vU, vI x3] [] σ Q := by
  refine wp_aload_n dX11_fewest_73 rfl rfl ?_
  refine wp_aload_n dX11_fewest_74 rfl rfl ?_
  refine wp_getR dX11_fewest_75 fl_CustomValley_38 rfl rfl ?_
  refine wp_aload_n dX11_fewest_78 rfl rfl ?_
  refine wp_getR dX11_fewest_79 fl_CustomValley_28 rfl rfl ?_
  refine wp_iload_n dX11_fewest_82 rfl rfl ?_
  refine wp_aload_n dX11_fewest_83 rfl rfl ?_
  refine wp_getR dX11_fewest_84 fl_CustomValley_76 rfl rfl ?_
  refine wp_invV (N := mX5_trace) [vR 2 0, vI x1, vR 63 0] dX11_fewest_87 ml_CustomValley_233 mvX5_trace rfl rfl rfl rfl rfl (Nat.le_of_ble_eq_true rfl) (Nat.le_of_ble_eq_true rfl) (by decide) (by decide) (by decide) ?_
  exact WP.mono h (ct_drop (lle_c (Or.inr rfl) (lle_c (Or.inr rfl) (lle_c (Or.inl rfl) (lle_c (Or.inl rfl) lle_n)))))
theorem b_X11_fewest_90 {x3 : Int} {t0 : Int} {σ : St} {Q : Res → St → Prop} (h : Q (.inl (some (vI x3))) (up σ 12 0 14 t0)) : WP mX11_fewest 90 [vU, vU, vU, vI x3] [vI t0, vR 12 0] σ Q := by
  refine wp_putI dX11_fewest_90 fp_CustomValley_237 rfl rfl rfl ?_
  refine wp_iload_n dX11_fewest_93 rfl rfl ?_
  exact wp_iret dX11_fewest_94 rfl h
theorem dX11_findShort_0 : decode cX11_findShort 0 = .ok (.iconst 0, 1) := by decide +kernel
theorem dX11_findShort_1 : decode cX11_findShort 1 = .ok (.istore_n 1, 1) := by decide +kernel
theorem dX11_findShort_2 : decode cX11_findShort 2 = .ok (.iconst (-1), 1) := by decide +kernel
theorem dX11_findShort_3 : decode cX11_findShort 3 = .ok (.istore_n 2, 1) := by decide +kernel
theorem dX11_findShort_4 : decode cX11_findShort 4 = .ok (.iconst 0, 1) := by decide +kernel
theorem dX11_findShort_5 : decode cX11_findShort 5 = .ok (.istore_n 3, 1) := by decide +kernel
theorem dX11_findShort_6 : decode cX11_findShort 6 = .ok (.iload_n 3, 1) := by decide +kernel
theorem dX11_findShort_7 : decode cX11_findShort 7 = .ok (.aload_n 0, 1) := by decide +kernel
theorem dX11_findShort_8 : decode cX11_findShort 8 = .ok (.getfield 28, 3) := by decide +kernel
theorem dX11_findShort_11 : decode cX11_findShort 11 = .ok (.getfield 187, 3) := by decide +kernel
theorem dX11_findShort_14 : decode cX11_findShort 14 = .ok (.getfield 191, 3) := by decide +kernel
theorem dX11_findShort_17 : decode cX11_findShort 17 = .ok (.if_icmp .ge 42, 3) := by decide +kernel
theorem dX11_findShort_20 : decode cX11_findShort 20 = .ok (.aload_n 0, 1) := by decide +kernel
theorem dX11_findShort_21 : decode cX11_findShort 21 = .ok (.getfield 38, 3) := by decide +kernel
theorem dX11_findShort_24 : decode cX11_findShort 24 = .ok (.aload_n 0, 1) := by decide +kernel
theorem dX11_findShort_25 : decode cX11_findShort 25 = .ok (.getfield 28, 3) := by decide +kernel
theorem dX11_findShort_28 : decode cX11_findShort 28 = .ok (.iload_n 3, 1) := by decide +kernel
theorem dX11_findShort_29 : decode cX11_findShort 29 = .ok (.invokevirtual 258, 3) := by decide +kernel
theorem dX11_findShort_32 : decode cX11_findShort 32 = .ok (.istore 4, 2) := by decide +kernel
theorem dX11_findShort_34 : decode cX11_findShort 34 = .ok (.iload 4, 2) := by decide +kernel
theorem dX11_findShort_36 : decode cX11_findShort 36 = .ok (.iconst (-1), 1) := by decide +kernel
theorem dX11_findShort_37 : decode cX11_findShort 37 = .ok (.if_icmp .ne 5, 3) := by decide +kernel
theorem dX11_findShort_40 : decode cX11_findShort 40 = .ok (.iload_n 3, 1) := by decide +kernel
theorem dX11_findShort_41 : decode cX11_findShort 41 = .ok (.ireturn, 1) := by decide +kernel
theorem dX11_findShort_42 : decode cX11_findShort 42 = .ok (.iload 4, 2) := by decide +kernel
theorem dX11_findShort_44 : decode cX11_findShort 44 = .ok (.iload_n 1, 1) := by decide +kernel
theorem dX11_findShort_45 : decode cX11_findShort 45 = .ok (.if_icmp .le 8, 3) := by decide +kernel
theorem dX11_findShort_48 : decode cX11_findShort 48 = .ok (.iload 4, 2) := by decide +kernel
theorem dX11_findShort_50 : decode cX11_findShort 50 = .ok (.istore_n 1, 1) := by decide +kernel
theorem dX11_findShort_51 : decode cX11_findShort 51 = .ok (.iload_n 3, 1) := by decide +kernel
theorem dX11_findShort_52 : decode cX11_findShort 52 = .ok (.istore_n 2, 1) := by decide +kernel
theorem dX11_findShort_53 : decode cX11_findShort 53 = .ok (.iinc 3 1, 3) := by decide +kernel
theorem dX11_findShort_56 : decode cX11_findShort 56 = .ok (.goto (-50), 3) := by decide +kernel
theorem dX11_findShort_59 : decode cX11_findShort 59 = .ok (.iload_n 2, 1) := by decide +kernel
theorem dX11_findShort_60 : decode cX11_findShort 60 = .ok (.iconst (-1), 1) := by decide +kernel
theorem dX11_findShort_61 : decode cX11_findShort 61 = .ok (.if_icmp .eq 16, 3) := by decide +kernel
theorem dX11_findShort_64 : decode cX11_findShort 64 = .ok (.iload_n 1, 1) := by decide +kernel
theorem dX11_findShort_65 : decode cX11_findShort 65 = .ok (.aload_n 0, 1) := by decide +kernel
theorem dX11_findShort_66 : decode cX11_findShort 66 = .ok (.iload_n 2, 1) := by decide +kernel
theorem dX11_findShort_67 : decode cX11_findShort 67 = .ok (.invokevirtual 261, 3) := by decide +kernel
theorem dX11_findShort_70 : decode cX11_findShort 70 = .ok (.if_icmp .le 7, 3) := by decide +kernel
theorem dX11_findShort_73 : decode cX11_findShort 73 = .ok (.iload_n 2, 1) := by decide +kernel
theorem dX11_findShort_74 : decode cX11_findShort 74 = .ok (.goto 4, 3) := by decide +kernel
theorem dX11_findShort_77 : decode cX11_findShort 77 = .ok (.iconst (-1), 1) := by decide +kernel
theorem dX11_findShort_78 : decode cX11_findShort 78 = .ok (.ireturn, 1) := by decide +kernel
theorem b_X11_findShort_0  {σ : St} {Q : Res → St → Prop} (h : WP mX11_findShort 6 [vR 12 0, vI 0, vI (-1), vI 0, vU] [] σ Q) : WP mX11_findShort 0 [vR 12 0, vU, vU, vU, vU] [] σ Q := by
  refine wp_iconst dX11_findShort_0 rfl ?_
  refine wp_istore_n dX11_findShort_1 rfl (by decide) rfl rfl ?_
  refine wp_iconst dX11_findShort_2 rfl ?_
  refine wp_istore_n dX11_findShort_3 rfl (by decide) rfl rfl ?_
  refine wp_iconst dX11_findShort_4 rfl ?_
  refine wp_istore_n dX11_findShort_5 rfl (by decide) rfl rfl ?_
  exact h
theorem b_X11_findShort_6 {x1 : Int} {x2 : Int} {x3 : Int} {σ : St} {Q : Res → St → Prop} (h : (((σ 5 0 0) ≤ x3) → (((x2 = (-1)) → (Q (.inl (some (vI (-1)))) σ)) ∧ ((x2 ≠ (-1)) → (WP mX11_farthest 0 [vR 12 0, vI x2, vU, vU] [] σ (CT mX11_findShort 70 [vU, vU, vI x2, vU, vU] [vI x1] Q))))) ∧ ((x3 < (σ 5 0 0)) → (WP mX5_leave 0 [vR 6 0, vR 2 0, vI x3, vU, vU] [] σ (CT mX11_findShort 32 [vR 12 0, vI x1, vI x2, vI x3, vU] [] Q)))) : WP mX11_findShort 6 [vR 12 0, vI x1, vI x2, vI x3, vU] [] σ Q := by
  refine wp_iload_n dX11_findShort_6 rfl rfl ?_
  refine wp_aload_n dX11_findShort_7 rfl rfl ?_
  refine wp_getR dX11_findShort_8 fl_CustomValley_28 rfl rfl ?_
  refine wp_getR dX11_findShort_11 fl_CustomValley_187 rfl rfl ?_
  refine wp_getI dX11_findShort_14 fl_CustomValley_191 rfl rfl rfl ?_
  refine wp_icmp_ge (tgt := 59) dX11_findShort_17 (by decide) (fun hc => ?_) (fun hc => ?_)
  · replace h := h.1 hc
    refine wp_iload_n dX11_findShort_59 rfl rfl ?_
    refine wp_iconst dX11_findShort_60 rfl ?_
    refine wp_icmp_eq (tgt := 77) dX11_findShort_61 (by decide) (fun hc => ?_) (fun hc => ?_)
    · replace h := h.1 hc
      refine wp_iconst dX11_findShort_77 rfl ?_
      exact wp_iret dX11_findShort_78 rfl h
    · replace h := h.2 hc
      refine wp_iload_n dX11_findShort_64 rfl rfl ?_
      refine wp_aload_n dX11_findShort_65 rfl rfl ?_
      refine wp_iload_n dX11_findShort_66 rfl rfl ?_
      refine wp_invV (N := mX11_farthest) [vI x2] dX11_findShort_67 ml_CustomValley_261 mvX11_farthest rfl rfl rfl rfl rfl (Nat.le_of_ble_eq_true rfl) (Nat.le_of_ble_eq_true rfl) (by decide) (by decide) (by decide) ?_
      exact WP.mono h (ct_drop (lle_c (Or.inr rfl) (lle_c (Or.inr rfl) (lle_c (Or.inl rfl) (lle_c (Or.inr rfl) (lle_c (Or.inl rfl) lle_n))))))
  · replace h := h.2 hc
    refine wp_aload_n dX11_findShort_20 rfl rfl ?_
    refine wp_getR dX11_findShort_21 fl_CustomValley_38 rfl rfl ?_
    refine wp_aload_n dX11_findShort_24 rfl rfl ?_
    refine wp_getR dX11_findShort_25 fl_CustomValley_28 rfl rfl ?_
    refine wp_iload_n dX11_findShort_28 rfl rfl ?_
    refine wp_invV (N := mX5_leave) [vR 2 0, vI x3] dX11_findShort_29 ml_CustomValley_258 mvX5_leave rfl rfl rfl rfl rfl (Nat.le_of_ble_eq_true rfl) (Nat.le_of_ble_eq_true rfl) (by decide) (by decide) (by decide) ?_
    exact h
theorem b_X11_findShort_32 {x1 : Int} {x2 : Int} {x3 : Int} {t0 : Int} {σ : St} {Q : Res → St → Prop} (h : ((t0 ≠ (-1)) → (((t0 ≤ x1) → ((in32 (x3 + 1)) ∧ (WP mX11_findShort 6 [vR 12 0, vI x1, vI x2, vI (x3 + 1), vU] [] σ Q))) ∧ ((x1 < t0) → ((in32 (x3 + 1)) ∧ (WP mX11_findShort 6 [vR 12 0, vI t0, vI x3, vI (x3 + 1), vU] [] σ Q))))) ∧ ((t0 = (-1)) → (Q (.inl (some (vI x3))) σ))) : WP mX11_findShort 32 [vR 12 0, vI x1, vI x2, vI x3, vU] [vI t0] σ Q := by
  refine wp_istore dX11_findShort_32 (by decide) rfl rfl ?_
  refine wp_iload dX11_findShort_34 rfl ?_
  refine wp_iconst dX11_findShort_36 rfl ?_
  refine wp_icmp_ne (tgt := 42) dX11_findShort_37 (by decide) (fun hc => ?_) (fun hc => ?_)
  · replace h := h.1 hc
    refine wp_iload dX11_findShort_42 rfl ?_
    refine wp_iload_n dX11_findShort_44 rfl rfl ?_
    refine wp_icmp_le (tgt := 53) dX11_findShort_45 (by decide) (fun hc => ?_) (fun hc => ?_)
    · replace h := h.1 hc
      have s1 := h.1
      replace h := h.2
      refine wp_iinc dX11_findShort_53 rfl (by decide) rfl rfl ?_ (h1 := s1.1) (h2 := s1.2)
      refine wp_goto (tgt := 6) dX11_findShort_56 (by decide) ?_
      exact wp_drop (als' := [vR 12 0, vI x1, vI x2, vI (x3 + 1), vU]) (lle_c (Or.inl rfl) (lle_c (Or.inl rfl) (lle_c (Or.inl rfl) (lle_c (Or.inl rfl) (lle_c (Or.inr rfl) lle_n))))) h
    · replace h := h.2 hc
      refine wp_iload dX11_findShort_48 rfl ?_
      refine wp_istore_n dX11_findShort_50 rfl (by decide) rfl rfl ?_
      refine wp_iload_n dX11_findShort_51 rfl rfl ?_
      refine wp_istore_n dX11_findShort_52 rfl (by decide) rfl rfl ?_
      have s2 := h.1
      replace h := h.2
      refine wp_iinc dX11_findShort_53 rfl (by decide) rfl rfl ?_ (h1 := s2.1) (h2 := s2.2)
      refine wp_goto (tgt := 6) dX11_findShort_56 (by decide) ?_
      exact wp_drop (als' := [vR 12 0, vI t0, vI x3, vI (x3 + 1), vU]) (lle_c (Or.inl rfl) (lle_c (Or.inl rfl) (lle_c (Or.inl rfl) (lle_c (Or.inl rfl) (lle_c (Or.inr rfl) lle_n))))) h
  · replace h := h.2 hc
    refine wp_iload_n dX11_findShort_40 rfl rfl ?_
    exact wp_iret dX11_findShort_41 rfl h
theorem b_X11_findShort_70 {x2 : Int} {t0 : Int} {t1 : Int} {σ : St} {Q : Res → St → Prop} (h : ((t1 ≤ t0) → (Q (.inl (some (vI (-1)))) σ)) ∧ ((t0 < t1) → (Q (.inl (some (vI x2))) σ))) : WP mX11_findShort 70 [vU, vU, vI x2, vU, vU] [vI t0, vI t1] σ Q := by
  refine wp_icmp_le (tgt := 77) dX11_findShort_70 (by decide) (fun hc => ?_) (fun hc => ?_)
  · replace h := h.1 hc
    refine wp_iconst dX11_findShort_77 rfl ?_
    exact wp_iret dX11_findShort_78 rfl h
  · replace h := h.2 hc
    refine wp_iload_n dX11_findShort_73 rfl rfl ?_
    refine wp_goto (tgt := 78) dX11_findShort_74 (by decide) ?_
    exact wp_iret dX11_findShort_78 rfl h
theorem dX11_flow_0 : decode cX11_flow 0 = .ok (.aload_n 0, 1) := by decide +kernel
theorem dX11_flow_1 : decode cX11_flow 1 = .ok (.getfield 28, 3) := by decide +kernel
theorem dX11_flow_4 : decode cX11_flow 4 = .ok (.getfield 103, 3) := by decide +kernel
theorem dX11_flow_7 : decode cX11_flow 7 = .ok (.iload_n 1, 1) := by decide +kernel
theorem dX11_flow_8 : decode cX11_flow 8 = .ok (.invokevirtual 151, 3) := by decide +kernel
theorem dX11_flow_11 : decode cX11_flow 11 = .ok (.ifCond .eq 21, 3) := by decide +kernel
theorem dX11_flow_14 : decode cX11_flow 14 = .ok (.iload_n 2, 1) := by decide +kernel
theorem dX11_flow_15 : decode cX11_flow 15 = .ok (.ifCond .lt 17, 3) := by decide +kernel
theorem dX11_flow_18 : decode cX11_flow 18 = .ok (.iload_n 2, 1) := by decide +kernel
theorem dX11_flow_19 : decode cX11_flow 19 = .ok (.sipush 400, 3) := by decide +kernel
theorem dX11_flow_22 : decode cX11_flow 22 = .ok (.if_icmp .gt 10, 3) := by decide +kernel
theorem dX11_flow_25 : decode cX11_flow 25 = .ok (.iload_n 3, 1) := by decide +kernel
theorem dX11_flow_26 : decode cX11_flow 26 = .ok (.invokestatic 296, 3) := by decide +kernel
theorem dX11_flow_29 : decode cX11_flow 29 = .ok (.ifCond .ne 6, 3) := by decide +kernel
theorem dX11_flow_32 : decode cX11_flow 32 = .ok (.bipush (-2), 2) := by decide +kernel
theorem dX11_flow_34 : decode cX11_flow 34 = .ok (.ireturn, 1) := by decide +kernel
theorem dX11_flow_35 : decode cX11_flow 35 = .ok (.aload_n 0, 1) := by decide +kernel
theorem dX11_flow_36 : decode cX11_flow 36 = .ok (.getfield 28, 3) := by decide +kernel
theorem dX11_flow_39 : decode cX11_flow 39 = .ok (.invokevirtual 165, 3) := by decide +kernel
theorem dX11_flow_42 : decode cX11_flow 42 = .ok (.aload_n 0, 1) := by decide +kernel
theorem dX11_flow_43 : decode cX11_flow 43 = .ok (.getfield 55, 3) := by decide +kernel
theorem dX11_flow_46 : decode cX11_flow 46 = .ok (.aload_n 0, 1) := by decide +kernel
theorem dX11_flow_47 : decode cX11_flow 47 = .ok (.getfield 28, 3) := by decide +kernel
theorem dX11_flow_50 : decode cX11_flow 50 = .ok (.iload_n 1, 1) := by decide +kernel
theorem dX11_flow_51 : decode cX11_flow 51 = .ok (.iload_n 2, 1) := by decide +kernel
theorem dX11_flow_52 : decode cX11_flow 52 = .ok (.iload_n 3, 1) := by decide +kernel
theorem dX11_flow_53 : decode cX11_flow 53 = .ok (.invokevirtual 299, 3) := by decide +kernel
theorem dX11_flow_56 : decode cX11_flow 56 = .ok (.iconst 1, 1) := by decide +kernel
theorem dX11_flow_57 : decode cX11_flow 57 = .ok (.ireturn, 1) := by decide +kernel
theorem b_X11_flow_0 {x1 : Int} {x2 : Int} {x3 : Int} {σ : St} {Q : Res → St → Prop} (h : WP mX9_isState 0 [vR 10 0, vI x1, vU] [] σ (CT mX11_flow 11 [vR 12 0, vI x1, vI x2, vI x3] [] Q)) : WP mX11_flow 0 [vR 12 0, vI x1, vI x2, vI x3] [] σ Q := by
  refine wp_aload_n dX11_flow_0 rfl rfl ?_
  refine wp_getR dX11_flow_1 fl_CustomValley_28 rfl rfl ?_
  refine wp_getR dX11_flow_4 fl_CustomValley_103 rfl rfl ?_
  refine wp_iload_n dX11_flow_7 rfl rfl ?_
  refine wp_invV (N := mX9_isState) [vI x1] dX11_flow_8 ml_CustomValley_151 mvX9_isState rfl rfl rfl rfl rfl (Nat.le_of_ble_eq_true rfl) (Nat.le_of_ble_eq_true rfl) (by decide) (by decide) (by decide) ?_
  exact h
theorem b_X11_flow_11 {x1 : Int} {x2 : Int} {x3 : Int} {t0 : Int} {σ : St} {Q : Res → St → Prop} (h : ((t0 = 0) → (Q (.inl (some (vI (-2)))) σ)) ∧ ((t0 ≠ 0) → (((x2 < 0) → (Q (.inl (some (vI (-2)))) σ)) ∧ ((0 ≤ x2) → (((400 < x2) → (Q (.inl (some (vI (-2)))) σ)) ∧ ((x2 ≤ 400) → (((2 ≤ x3 ∧ x3 ≤ 1000) → (WP mX1_ready 0 [vR 2 0] [] σ (CT mX11_flow 42 [vR 12 0, vI x1, vI x2, vI x3] [] Q))) ∧ ((¬ (2 ≤ x3 ∧ x3 ≤ 1000)) → (Q (.inl (some (vI (-2)))) σ))))))))) : WP mX11_flow 11 [vR 12 0, vI x1, vI x2, vI x3] [vI t0] σ Q := by
  refine wp_if_eq (tgt := 32) dX11_flow_11 (by decide) (fun hc => ?_) (fun hc => ?_)
  · replace h := h.1 hc
    refine wp_bipush dX11_flow_32 rfl ?_
    exact wp_iret dX11_flow_34 rfl h
  · replace h := h.2 hc
    refine wp_iload_n dX11_flow_14 rfl rfl ?_
    refine wp_if_lt (tgt := 32) dX11_flow_15 (by decide) (fun hc => ?_) (fun hc => ?_)
    · replace h := h.1 hc
      refine wp_bipush dX11_flow_32 rfl ?_
      exact wp_iret dX11_flow_34 rfl h
    · replace h := h.2 hc
      refine wp_iload_n dX11_flow_18 rfl rfl ?_
      refine wp_sipush dX11_flow_19 rfl ?_
      refine wp_icmp_gt (tgt := 32) dX11_flow_22 (by decide) (fun hc => ?_) (fun hc => ?_)
      · replace h := h.1 hc
        refine wp_bipush dX11_flow_32 rfl ?_
        exact wp_iret dX11_flow_34 rfl h
      · replace h := h.2 hc
        refine wp_iload_n dX11_flow_25 rfl rfl ?_
        refine wp_invS (N := mX11_areOdds) [vI x3] dX11_flow_26 ml_CustomValley_296 mvX11_areOdds rfl rfl rfl (Nat.le_of_ble_eq_true rfl) (Nat.le_of_ble_eq_true rfl) (by decide) (by decide) ?_
        refine pb_X11_areOdds (by trivial) ?_
        show WP mX11_flow 29 [vR 12 0, vI x1, vI x2, vI x3] [vI (b2 (2 ≤ x3 ∧ x3 ≤ 1000))] σ Q
        refine wp_if_ne (tgt := 35) dX11_flow_29 (by decide) (fun hc => ?_) (fun hc => ?_)
        · replace h := h.1 (b2_ne hc)
          refine wp_aload_n dX11_flow_35 rfl rfl ?_
          refine wp_getR dX11_flow_36 fl_CustomValley_28 rfl rfl ?_
          refine wp_invV (N := mX1_ready) [] dX11_flow_39 ml_CustomValley_165 mvX1_ready rfl rfl rfl rfl rfl (Nat.le_of_ble_eq_true rfl) (Nat.le_of_ble_eq_true rfl) (by decide) (by decide) (by decide) ?_
          exact h
        · replace h := h.2 (b2_eq hc)
          refine wp_bipush dX11_flow_32 rfl ?_
          exact wp_iret dX11_flow_34 rfl h
theorem b_X11_flow_42 {x1 : Int} {x2 : Int} {x3 : Int} {σ : St} {Q : Res → St → Prop} (h : WP mX0_pour 0 [vR 1 0, vR 2 0, vI x1, vI x2, vI x3, vU, vU] [] σ (CT mX11_flow 56 [vU, vU, vU, vU] [] Q)) : WP mX11_flow 42 [vR 12 0, vI x1, vI x2, vI x3] [] σ Q := by
  refine wp_aload_n dX11_flow_42 rfl rfl ?_
  refine wp_getR dX11_flow_43 fl_CustomValley_55 rfl rfl ?_
  refine wp_aload_n dX11_flow_46 rfl rfl ?_
  refine wp_getR dX11_flow_47 fl_CustomValley_28 rfl rfl ?_
  refine wp_iload_n dX11_flow_50 rfl rfl ?_
  refine wp_iload_n dX11_flow_51 rfl rfl ?_
  refine wp_iload_n dX11_flow_52 rfl rfl ?_
  refine wp_invV (N := mX0_pour) [vR 2 0, vI x1, vI x2, vI x3] dX11_flow_53 ml_CustomValley_299 mvX0_pour rfl rfl rfl rfl rfl (Nat.le_of_ble_eq_true rfl) (Nat.le_of_ble_eq_true rfl) (by decide) (by decide) (by decide) ?_
  exact WP.mono h (ct_drop (lle_c (Or.inr rfl) (lle_c (Or.inr rfl) (lle_c (Or.inr rfl) (lle_c (Or.inr rfl) lle_n)))))
theorem b_X11_flow_56  {σ : St} {Q : Res → St → Prop} (h : Q (.inl (some (vI 1))) σ) : WP mX11_flow 56 [vU, vU, vU, vU] [] σ Q := by
  refine wp_iconst dX11_flow_56 rfl ?_
  exact wp_iret dX11_flow_57 rfl h
theorem dX11_judge_0 : decode cX11_judge 0 = .ok (.aload_n 0, 1) := by decide +kernel
theorem dX11_judge_1 : decode cX11_judge 1 = .ok (.getfield 10, 3) := by decide +kernel
theorem dX11_judge_4 : decode cX11_judge 4 = .ok (.getfield 89, 3) := by decide +kernel
theorem dX11_judge_7 : decode cX11_judge 7 = .ok (.istore_n 2, 1) := by decide +kernel
theorem dX11_judge_8 : decode cX11_judge 8 = .ok (.aload_n 0, 1) := by decide +kernel
theorem dX11_judge_9 : decode cX11_judge 9 = .ok (.getfield 10, 3) := by decide +kernel
theorem dX11_judge_12 : decode cX11_judge 12 = .ok (.iconst 0, 1) := by decide +kernel
theorem dX11_judge_13 : decode cX11_judge 13 = .ok (.putfield 89, 3) := by decide +kernel
theorem dX11_judge_16 : decode cX11_judge 16 = .ok (.aload_n 0, 1) := by decide +kernel
theorem dX11_judge_17 : decode cX11_judge 17 = .ok (.getfield 28, 3) := by decide +kernel
theorem dX11_judge_20 : decode cX11_judge 20 = .ok (.getfield 103, 3) := by decide +kernel
theorem dX11_judge_23 : decode cX11_judge 23 = .ok (.iload_n 1, 1) := by decide +kernel
theorem dX11_judge_24 : decode cX11_judge 24 = .ok (.invokevirtual 151, 3) := by decide +kernel
theorem dX11_judge_27 : decode cX11_judge 27 = .ok (.ifCond .ne 6, 3) := by decide +kernel
theorem dX11_judge_30 : decode cX11_judge 30 = .ok (.bipush (-2), 2) := by decide +kernel
theorem dX11_judge_32 : decode cX11_judge 32 = .ok (.ireturn, 1) := by decide +kernel
theorem dX11_judge_33 : decode cX11_judge 33 = .ok (.iload_n 2, 1) := by decide +kernel
theorem dX11_judge_34 : decode cX11_judge 34 = .ok (.iconst 2, 1) := by decide +kernel
theorem dX11_judge_35 : decode cX11_judge 35 = .ok (.irem, 1) := by decide +kernel
theorem dX11_judge_36 : decode cX11_judge 36 = .ok (.ifCond .ne 9, 3) := by decide +kernel
theorem dX11_judge_39 : decode cX11_judge 39 = .ok (.iload_n 2, 1) := by decide +kernel
theorem dX11_judge_40 : decode cX11_judge 40 = .ok (.bipush 120, 2) := by decide +kernel
theorem dX11_judge_42 : decode cX11_judge 42 = .ok (.if_icmp .le 5, 3) := by decide +kernel
theorem dX11_judge_45 : decode cX11_judge 45 = .ok (.iconst (-1), 1) := by decide +kernel
theorem dX11_judge_46 : decode cX11_judge 46 = .ok (.ireturn, 1) := by decide +kernel
theorem dX11_judge_47 : decode cX11_judge 47 = .ok (.aload_n 0, 1) := by decide +kernel
theorem dX11_judge_48 : decode cX11_judge 48 = .ok (.getfield 28, 3) := by decide +kernel
theorem dX11_judge_51 : decode cX11_judge 51 = .ok (.invokevirtual 165, 3) := by decide +kernel
theorem dX11_judge_54 : decode cX11_judge 54 = .ok (.aload_n 0, 1) := by decide +kernel
theorem dX11_judge_55 : decode cX11_judge 55 = .ok (.getfield 66, 3) := by decide +kernel
theorem dX11_judge_58 : decode cX11_judge 58 = .ok (.aload_n 0, 1) := by decide +kernel
theorem dX11_judge_59 : decode cX11_judge 59 = .ok (.getfield 28, 3) := by decide +kernel
theorem dX11_judge_62 : decode cX11_judge 62 = .ok (.iload_n 1, 1) := by decide +kernel
theorem dX11_judge_63 : decode cX11_judge 63 = .ok (.aload_n 0, 1) := by decide +kernel
theorem dX11_judge_64 : decode cX11_judge 64 = .ok (.getfield 10, 3) := by decide +kernel
theorem dX11_judge_67 : decode cX11_judge 67 = .ok (.iload_n 2, 1) := by decide +kernel
theorem dX11_judge_68 : decode cX11_judge 68 = .ok (.iconst 2, 1) := by decide +kernel
theorem dX11_judge_69 : decode cX11_judge 69 = .ok (.idiv, 1) := by decide +kernel
theorem dX11_judge_70 : decode cX11_judge 70 = .ok (.invokevirtual 331, 3) := by decide +kernel
theorem dX11_judge_73 : decode cX11_judge 73 = .ok (.ireturn, 1) := by decide +kernel
theorem b_X11_judge_0 {x1 : Int} {σ : St} {Q : Res → St → Prop} (h : WP mX9_isState 0 [vR 10 0, vI x1, vU] [] (up σ 8 0 1 0) (CT mX11_judge 27 [vR 12 0, vI x1, vI (σ 8 0 1)] [] Q)) : WP mX11_judge 0 [vR 12 0, vI x1, vU] [] σ Q := by
  refine wp_aload_n dX11_judge_0 rfl rfl ?_
  refine wp_getR dX11_judge_1 fl_CustomValley_10 rfl rfl ?_
  refine wp_getI dX11_judge_4 fl_CustomValley_89 rfl rfl rfl ?_
  refine wp_istore_n dX11_judge_7 rfl (by decide) rfl rfl ?_
  refine wp_aload_n dX11_judge_8 rfl rfl ?_
  refine wp_getR dX11_judge_9 fl_CustomValley_10 rfl rfl ?_
  refine wp_iconst dX11_judge_12 rfl ?_
  refine wp_putI dX11_judge_13 fp_CustomValley_89 rfl rfl rfl ?_
  refine wp_aload_n dX11_judge_16 rfl rfl ?_
  refine wp_getR dX11_judge_17 fl_CustomValley_28 rfl rfl ?_
  refine wp_getR dX11_judge_20 fl_CustomValley_103 rfl rfl ?_
  refine wp_iload_n dX11_judge_23 rfl rfl ?_
  refine wp_invV (N := mX9_isState) [vI x1] dX11_judge_24 ml_CustomValley_151 mvX9_isState rfl rfl rfl rfl rfl (Nat.le_of_ble_eq_true rfl) (Nat.le_of_ble_eq_true rfl) (by decide) (by decide) (by decide) ?_
  exact h
theorem b_X11_judge_27 {x1 : Int} {x2 : Int} {t0 : Int} {σ : St} {Q : Res → St → Prop} (h : ((t0 ≠ 0) → ((0 ≤ x2) ∧ ((((x2 % 2) ≠ 0) → (Q (.inl (some (vI (-1)))) σ)) ∧ (((x2 % 2) = 0) → (((x2 ≤ 120) → (WP mX1_ready 0 [vR 2 0] [] σ (CT mX11_judge 54 [vR 12 0, vI x1, vI x2] [] Q))) ∧ ((120 < x2) → (Q (.inl (some (vI (-1)))) σ))))))) ∧ ((t0 = 0) → (Q (.inl (some (vI (-2)))) σ))) : WP mX11_judge 27 [vR 12 0, vI x1, vI x2] [vI t0] σ Q := by
  refine wp_if_ne (tgt := 33) dX11_judge_27 (by decide) (fun hc => ?_) (fun hc => ?_)
  · replace h := h.1 hc
    refine wp_iload_n dX11_judge_33 rfl rfl ?_
    refine wp_iconst dX11_judge_34 rfl ?_
    have s1 := h.1
    replace h := h.2
    refine wp_irem dX11_judge_35 ?_ (h1 := s1) (h2 := by decide)
    refine wp_if_ne (tgt := 45) dX11_judge_36 (by decide) (fun hc => ?_) (fun hc => ?_)
    · replace h := h.1 hc
      refine wp_iconst dX11_judge_45 rfl ?_
      exact wp_iret dX11_judge_46 rfl h
    · replace h := h.2 hc
      refine wp_iload_n dX11_judge_39 rfl rfl ?_
      refine wp_bipush dX11_judge_40 rfl ?_
      refine wp_icmp_le (tgt := 47) dX11_judge_42 (by decide) (fun hc => ?_) (fun hc => ?_)
      · replace h := h.1 hc
        refine wp_aload_n dX11_judge_47 rfl rfl ?_
        refine wp_getR dX11_judge_48 fl_CustomValley_28 rfl rfl ?_
        refine wp_invV (N := mX1_ready) [] dX11_judge_51 ml_CustomValley_165 mvX1_ready rfl rfl rfl rfl rfl (Nat.le_of_ble_eq_true rfl) (Nat.le_of_ble_eq_true rfl) (by decide) (by decide) (by decide) ?_
        exact h
      · replace h := h.2 hc
        refine wp_iconst dX11_judge_45 rfl ?_
        exact wp_iret dX11_judge_46 rfl h
  · replace h := h.2 hc
    refine wp_bipush dX11_judge_30 rfl ?_
    exact wp_iret dX11_judge_32 rfl h
theorem b_X11_judge_54 {x1 : Int} {x2 : Int} {σ : St} {Q : Res → St → Prop} (h : (0 ≤ x2) ∧ (WP mX10_follow 0 [vR 11 1, vR 2 0, vI x1, vR 8 0, vI (x2 / 2), vU, vU, vU, vU] [] σ (CT mX11_judge 73 [vU, vU, vU] [] Q))) : WP mX11_judge 54 [vR 12 0, vI x1, vI x2] [] σ Q := by
  refine wp_aload_n dX11_judge_54 rfl rfl ?_
  refine wp_getR dX11_judge_55 fl_CustomValley_66 rfl rfl ?_
  refine wp_aload_n dX11_judge_58 rfl rfl ?_
  refine wp_getR dX11_judge_59 fl_CustomValley_28 rfl rfl ?_
  refine wp_iload_n dX11_judge_62 rfl rfl ?_
  refine wp_aload_n dX11_judge_63 rfl rfl ?_
  refine wp_getR dX11_judge_64 fl_CustomValley_10 rfl rfl ?_
  refine wp_iload_n dX11_judge_67 rfl rfl ?_
  refine wp_iconst dX11_judge_68 rfl ?_
  have s1 := h.1
  replace h := h.2
  refine wp_idiv dX11_judge_69 ?_ (h1 := s1) (h2 := by decide)
  refine wp_invV (N := mX10_follow) [vR 2 0, vI x1, vR 8 0, vI (x2 / 2)] dX11_judge_70 ml_CustomValley_331 mvX10_follow rfl rfl rfl rfl rfl (Nat.le_of_ble_eq_true rfl) (Nat.le_of_ble_eq_true rfl) (by decide) (by decide) (by decide) ?_
  exact WP.mono h (ct_drop (lle_c (Or.inr rfl) (lle_c (Or.inr rfl) (lle_c (Or.inr rfl) lle_n))))
theorem b_X11_judge_73 {t0 : Int} {σ : St} {Q : Res → St → Prop} (h : Q (.inl (some (vI t0))) σ) : WP mX11_judge 73 [vU, vU, vU] [vI t0] σ Q := by
  exact wp_iret dX11_judge_73 rfl h
theorem dX11_likeliest_0 : decode cX11_likeliest 0 = .ok (.iload_n 1, 1) := by decide +kernel
theorem dX11_likeliest_1 : decode cX11_likeliest 1 = .ok (.ifCond .lt 10, 3) := by decide +kernel
theorem dX11_likeliest_4 : decode cX11_likeliest 4 = .ok (.iload_n 1, 1) := by decide +kernel
theorem dX11_likeliest_5 : decode cX11_likeliest 5 = .ok (.sipush 999, 3) := by decide +kernel
theorem dX11_likeliest_8 : decode cX11_likeliest 8 = .ok (.if_icmp .le 6, 3) := by decide +kernel
theorem dX11_likeliest_11 : decode cX11_likeliest 11 = .ok (.bipush (-2), 2) := by decide +kernel
theorem dX11_likeliest_13 : decode cX11_likeliest 13 = .ok (.ireturn, 1) := by decide +kernel
theorem dX11_likeliest_14 : decode cX11_likeliest 14 = .ok (.iconst (-1), 1) := by decide +kernel
theorem dX11_likeliest_15 : decode cX11_likeliest 15 = .ok (.istore_n 2, 1) := by decide +kernel
theorem dX11_likeliest_16 : decode cX11_likeliest 16 = .ok (.ldc 228, 2) := by decide +kernel
theorem dX11_likeliest_18 : decode cX11_likeliest 18 = .ok (.istore_n 3, 1) := by decide +kernel
theorem dX11_likeliest_19 : decode cX11_likeliest 19 = .ok (.iconst 0, 1) := by decide +kernel
theorem dX11_likeliest_20 : decode cX11_likeliest 20 = .ok (.istore 4, 2) := by decide +kernel
theorem dX11_likeliest_22 : decode cX11_likeliest 22 = .ok (.iload 4, 2) := by decide +kernel
theorem dX11_likeliest_24 : decode cX11_likeliest 24 = .ok (.iconst 2, 1) := by decide +kernel
theorem dX11_likeliest_25 : decode cX11_likeliest 25 = .ok (.if_icmp .gt 30, 3) := by decide +kernel
theorem dX11_likeliest_28 : decode cX11_likeliest 28 = .ok (.aload_n 0, 1) := by decide +kernel
theorem dX11_likeliest_29 : decode cX11_likeliest 29 = .ok (.iload_n 1, 1) := by decide +kernel
theorem dX11_likeliest_30 : decode cX11_likeliest 30 = .ok (.iload 4, 2) := by decide +kernel
theorem dX11_likeliest_32 : decode cX11_likeliest 32 = .ok (.invokevirtual 353, 3) := by decide +kernel
theorem dX11_likeliest_35 : decode cX11_likeliest 35 = .ok (.istore 5, 2) := by decide +kernel
theorem dX11_likeliest_37 : decode cX11_likeliest 37 = .ok (.iload 5, 2) := by decide +kernel
theorem dX11_likeliest_39 : decode cX11_likeliest 39 = .ok (.iload_n 3, 1) := by decide +kernel
theorem dX11_likeliest_40 : decode cX11_likeliest 40 = .ok (.if_icmp .ge 9, 3) := by decide +kernel
theorem dX11_likeliest_43 : decode cX11_likeliest 43 = .ok (.iload 5, 2) := by decide +kernel
theorem dX11_likeliest_45 : decode cX11_likeliest 45 = .ok (.istore_n 3, 1) := by decide +kernel
theorem dX11_likeliest_46 : decode cX11_likeliest 46 = .ok (.iload 4, 2) := by decide +kernel
theorem dX11_likeliest_48 : decode cX11_likeliest 48 = .ok (.istore_n 2, 1) := by decide +kernel
theorem dX11_likeliest_49 : decode cX11_likeliest 49 = .ok (.iinc 4 1, 3) := by decide +kernel
theorem dX11_likeliest_52 : decode cX11_likeliest 52 = .ok (.goto (-30), 3) := by decide +kernel
theorem dX11_likeliest_55 : decode cX11_likeliest 55 = .ok (.iload_n 2, 1) := by decide +kernel
theorem dX11_likeliest_56 : decode cX11_likeliest 56 = .ok (.ireturn, 1) := by decide +kernel
theorem b_X11_likeliest_0 {x1 : Int} {σ : St} {Q : Res → St → Prop} (h : ((x1 < 0) → (Q (.inl (some (vI (-2)))) σ)) ∧ ((0 ≤ x1) → (((x1 ≤ 999) → (WP mX11_likeliest 22 [vR 12 0, vI x1, vI (-1), vI 1000000, vI 0, vU] [] σ Q)) ∧ ((999 < x1) → (Q (.inl (some (vI (-2)))) σ))))) : WP mX11_likeliest 0 [vR 12 0, vI x1, vU, vU, vU, vU] [] σ Q := by
  refine wp_iload_n dX11_likeliest_0 rfl rfl ?_
  refine wp_if_lt (tgt := 11) dX11_likeliest_1 (by decide) (fun hc => ?_) (fun hc => ?_)
  · replace h := h.1 hc
    refine wp_bipush dX11_likeliest_11 rfl ?_
    exact wp_iret dX11_likeliest_13 rfl h
  · replace h := h.2 hc
    refine wp_iload_n dX11_likeliest_4 rfl rfl ?_
    refine wp_sipush dX11_likeliest_5 rfl ?_
    refine wp_icmp_le (tgt := 14) dX11_likeliest_8 (by decide) (fun hc => ?_) (fun hc => ?_)
    · replace h := h.1 hc
      refine wp_iconst dX11_likeliest_14 rfl ?_
      refine wp_istore_n dX11_likeliest_15 rfl (by decide) rfl rfl ?_
      refine wp_ldc (n := 1000000) dX11_likeliest_16 ck_CustomValley_228 rfl ?_
      refine wp_istore_n dX11_likeliest_18 rfl (by decide) rfl rfl ?_
      refine wp_iconst dX11_likeliest_19 rfl ?_
      refine wp_istore dX11_likeliest_20 (by decide) rfl rfl ?_
      exact h
    · replace h := h.2 hc
      refine wp_bipush dX11_likeliest_11 rfl ?_
      exact wp_iret dX11_likeliest_13 rfl h
theorem b_X11_likeliest_22 {x1 : Int} {x2 : Int} {x3 : Int} {x4 : Int} {σ : St} {Q : Res → St → Prop} (h : ((2 < x4) → (Q (.inl (some (vI x2))) σ)) ∧ ((x4 ≤ 2) → (WP mX11_slipsSeen 0 [vR 12 0, vI x1, vI x4, vU, vU, vU, vU, vU] [] σ (CT mX11_likeliest 35 [vR 12 0, vI x1, vI x2, vI x3, vI x4, vU] [] Q)))) : WP mX11_likeliest 22 [vR 12 0, vI x1, vI x2, vI x3, vI x4, vU] [] σ Q := by
  refine wp_iload dX11_likeliest_22 rfl ?_
  refine wp_iconst dX11_likeliest_24 rfl ?_
  refine wp_icmp_gt (tgt := 55) dX11_likeliest_25 (by decide) (fun hc => ?_) (fun hc => ?_)
  · replace h := h.1 hc
    refine wp_iload_n dX11_likeliest_55 rfl rfl ?_
    exact wp_iret dX11_likeliest_56 rfl h
  · replace h := h.2 hc
    refine wp_aload_n dX11_likeliest_28 rfl rfl ?_
    refine wp_iload_n dX11_likeliest_29 rfl rfl ?_
    refine wp_iload dX11_likeliest_30 rfl ?_
    refine wp_invV (N := mX11_slipsSeen) [vI x1, vI x4] dX11_likeliest_32 ml_CustomValley_353 mvX11_slipsSeen rfl rfl rfl rfl rfl (Nat.le_of_ble_eq_true rfl) (Nat.le_of_ble_eq_true rfl) (by decide) (by decide) (by decide) ?_
    exact h
theorem b_X11_likeliest_35 {x1 : Int} {x2 : Int} {x3 : Int} {x4 : Int} {t0 : Int} {σ : St} {Q : Res → St → Prop} (h : ((x3 ≤ t0) → ((in32 (x4 + 1)) ∧ (WP mX11_likeliest 22 [vR 12 0, vI x1, vI x2, vI x3, vI (x4 + 1), vU] [] σ Q))) ∧ ((t0 < x3) → ((in32 (x4 + 1)) ∧ (WP mX11_likeliest 22 [vR 12 0, vI x1, vI x4, vI t0, vI (x4 + 1), vU] [] σ Q)))) : WP mX11_likeliest 35 [vR 12 0, vI x1, vI x2, vI x3, vI x4, vU] [vI t0] σ Q := by
  refine wp_istore dX11_likeliest_35 (by decide) rfl rfl ?_
  refine wp_iload dX11_likeliest_37 rfl ?_
  refine wp_iload_n dX11_likeliest_39 rfl rfl ?_
  refine wp_icmp_ge (tgt := 49) dX11_likeliest_40 (by decide) (fun hc => ?_) (fun hc => ?_)
  · replace h := h.1 hc
    have s1 := h.1
    replace h := h.2
    refine wp_iinc dX11_likeliest_49 rfl (by decide) rfl rfl ?_ (h1 := s1.1) (h2 := s1.2)
    refine wp_goto (tgt := 22) dX11_likeliest_52 (by decide) ?_
    exact wp_drop (als' := [vR 12 0, vI x1, vI x2, vI x3, vI (x4 + 1), vU]) (lle_c (Or.inl rfl) (lle_c (Or.inl rfl) (lle_c (Or.inl rfl) (lle_c (Or.inl rfl) (lle_c (Or.inl rfl) (lle_c (Or.inr rfl) lle_n)))))) h
  · replace h := h.2 hc
    refine wp_iload dX11_likeliest_43 rfl ?_
    refine wp_istore_n dX11_likeliest_45 rfl (by decide) rfl rfl ?_
    refine wp_iload dX11_likeliest_46 rfl ?_
    refine wp_istore_n dX11_likeliest_48 rfl (by decide) rfl rfl ?_
    have s2 := h.1
    replace h := h.2
    refine wp_iinc dX11_likeliest_49 rfl (by decide) rfl rfl ?_ (h1 := s2.1) (h2 := s2.2)
    refine wp_goto (tgt := 22) dX11_likeliest_52 (by decide) ?_
    exact wp_drop (als' := [vR 12 0, vI x1, vI x4, vI t0, vI (x4 + 1), vU]) (lle_c (Or.inl rfl) (lle_c (Or.inl rfl) (lle_c (Or.inl rfl) (lle_c (Or.inl rfl) (lle_c (Or.inl rfl) (lle_c (Or.inr rfl) lle_n)))))) h
theorem dX11_partsOf_0 : decode cX11_partsOf 0 = .ok (.aload_n 0, 1) := by decide +kernel
theorem dX11_partsOf_1 : decode cX11_partsOf 1 = .ok (.getfield 28, 3) := by decide +kernel
theorem dX11_partsOf_4 : decode cX11_partsOf 4 = .ok (.invokevirtual 165, 3) := by decide +kernel
theorem dX11_partsOf_7 : decode cX11_partsOf 7 = .ok (.aload_n 0, 1) := by decide +kernel
theorem dX11_partsOf_8 : decode cX11_partsOf 8 = .ok (.getfield 55, 3) := by decide +kernel
theorem dX11_partsOf_11 : decode cX11_partsOf 11 = .ok (.getfield 303, 3) := by decide +kernel
theorem dX11_partsOf_14 : decode cX11_partsOf 14 = .ok (.ifCond .eq 17, 3) := by decide +kernel
theorem dX11_partsOf_17 : decode cX11_partsOf 17 = .ok (.aload_n 0, 1) := by decide +kernel
theorem dX11_partsOf_18 : decode cX11_partsOf 18 = .ok (.getfield 28, 3) := by decide +kernel
theorem dX11_partsOf_21 : decode cX11_partsOf 21 = .ok (.getfield 187, 3) := by decide +kernel
theorem dX11_partsOf_24 : decode cX11_partsOf 24 = .ok (.iload_n 1, 1) := by decide +kernel
theorem dX11_partsOf_25 : decode cX11_partsOf 25 = .ok (.invokevirtual 196, 3) := by decide +kernel
theorem dX11_partsOf_28 : decode cX11_partsOf 28 = .ok (.ifCond .ne 5, 3) := by decide +kernel
theorem dX11_partsOf_31 : decode cX11_partsOf 31 = .ok (.iconst (-1), 1) := by decide +kernel
theorem dX11_partsOf_32 : decode cX11_partsOf 32 = .ok (.ireturn, 1) := by decide +kernel
theorem dX11_partsOf_33 : decode cX11_partsOf 33 = .ok (.iconst 0, 1) := by decide +kernel
theorem dX11_partsOf_34 : decode cX11_partsOf 34 = .ok (.istore_n 2, 1) := by decide +kernel
theorem dX11_partsOf_35 : decode cX11_partsOf 35 = .ok (.aload_n 0, 1) := by decide +kernel
theorem dX11_partsOf_36 : decode cX11_partsOf 36 = .ok (.getfield 28, 3) := by decide +kernel
theorem dX11_partsOf_39 : decode cX11_partsOf 39 = .ok (.getfield 187, 3) := by decide +kernel
theorem dX11_partsOf_42 : decode cX11_partsOf 42 = .ok (.getfield 212, 3) := by decide +kernel
theorem dX11_partsOf_45 : decode cX11_partsOf 45 = .ok (.iload_n 1, 1) := by decide +kernel
theorem dX11_partsOf_46 : decode cX11_partsOf 46 = .ok (.iaload, 1) := by decide +kernel
theorem dX11_partsOf_47 : decode cX11_partsOf 47 = .ok (.istore_n 3, 1) := by decide +kernel
theorem dX11_partsOf_48 : decode cX11_partsOf 48 = .ok (.iload_n 3, 1) := by decide +kernel
theorem dX11_partsOf_49 : decode cX11_partsOf 49 = .ok (.aload_n 0, 1) := by decide +kernel
theorem dX11_partsOf_50 : decode cX11_partsOf 50 = .ok (.getfield 28, 3) := by decide +kernel
theorem dX11_partsOf_53 : decode cX11_partsOf 53 = .ok (.getfield 187, 3) := by decide +kernel
theorem dX11_partsOf_56 : decode cX11_partsOf 56 = .ok (.getfield 212, 3) := by decide +kernel
theorem dX11_partsOf_59 : decode cX11_partsOf 59 = .ok (.iload_n 1, 1) := by decide +kernel
theorem dX11_partsOf_60 : decode cX11_partsOf 60 = .ok (.iconst 1, 1) := by decide +kernel
theorem dX11_partsOf_61 : decode cX11_partsOf 61 = .ok (.iadd, 1) := by decide +kernel
theorem dX11_partsOf_62 : decode cX11_partsOf 62 = .ok (.iaload, 1) := by decide +kernel
theorem dX11_partsOf_63 : decode cX11_partsOf 63 = .ok (.if_icmp .ge 32, 3) := by decide +kernel
theorem dX11_partsOf_66 : decode cX11_partsOf 66 = .ok (.iload_n 2, 1) := by decide +kernel
theorem dX11_partsOf_67 : decode cX11_partsOf 67 = .ok (.aload_n 0, 1) := by decide +kernel
theorem dX11_partsOf_68 : decode cX11_partsOf 68 = .ok (.getfield 55, 3) := by decide +kernel
theorem dX11_partsOf_71 : decode cX11_partsOf 71 = .ok (.getfield 306, 3) := by decide +kernel
theorem dX11_partsOf_74 : decode cX11_partsOf 74 = .ok (.aload_n 0, 1) := by decide +kernel
theorem dX11_partsOf_75 : decode cX11_partsOf 75 = .ok (.getfield 28, 3) := by decide +kernel
theorem dX11_partsOf_78 : decode cX11_partsOf 78 = .ok (.getfield 187, 3) := by decide +kernel
theorem dX11_partsOf_81 : decode cX11_partsOf 81 = .ok (.getfield 209, 3) := by decide +kernel
theorem dX11_partsOf_84 : decode cX11_partsOf 84 = .ok (.iload_n 3, 1) := by decide +kernel
theorem dX11_partsOf_85 : decode cX11_partsOf 85 = .ok (.iaload, 1) := by decide +kernel
theorem dX11_partsOf_86 : decode cX11_partsOf 86 = .ok (.iaload, 1) := by decide +kernel
theorem dX11_partsOf_87 : decode cX11_partsOf 87 = .ok (.iadd, 1) := by decide +kernel
theorem dX11_partsOf_88 : decode cX11_partsOf 88 = .ok (.istore_n 2, 1) := by decide +kernel
theorem dX11_partsOf_89 : decode cX11_partsOf 89 = .ok (.iinc 3 1, 3) := by decide +kernel
theorem dX11_partsOf_92 : decode cX11_partsOf 92 = .ok (.goto (-44), 3) := by decide +kernel
theorem dX11_partsOf_95 : decode cX11_partsOf 95 = .ok (.iload_n 2, 1) := by decide +kernel
theorem dX11_partsOf_96 : decode cX11_partsOf 96 = .ok (.ireturn, 1) := by decide +kernel
theorem b_X11_partsOf_0 {x1 : Int} {σ : St} {Q : Res → St → Prop} (h : WP mX1_ready 0 [vR 2 0] [] σ (CT mX11_partsOf 7 [vR 12 0, vI x1, vU, vU] [] Q)) : WP mX11_partsOf 0 [vR 12 0, vI x1, vU, vU] [] σ Q := by
  refine wp_aload_n dX11_partsOf_0 rfl rfl ?_
  refine wp_getR dX11_partsOf_1 fl_CustomValley_28 rfl rfl ?_
  refine wp_invV (N := mX1_ready) [] dX11_partsOf_4 ml_CustomValley_165 mvX1_ready rfl rfl rfl rfl rfl (Nat.le_of_ble_eq_true rfl) (Nat.le_of_ble_eq_true rfl) (by decide) (by decide) (by decide) ?_
  exact h
theorem b_X11_partsOf_7 {x1 : Int} {σ : St} {Q : Res → St → Prop} (h : (((σ 1 0 0) = 0) → (Q (.inl (some (vI (-1)))) σ)) ∧ (((σ 1 0 0) ≠ 0) → (((0 ≤ x1 ∧ x1 < (σ 5 0 0)) → ((0 ≤ x1 ∧ x1 < 1025) ∧ (WP mX11_partsOf 48 [vR 12 0, vI x1, vI 0, vI (σ 30 0 x1.toNat)] [] σ Q))) ∧ ((¬ (0 ≤ x1 ∧ x1 < (σ 5 0 0))) → (Q (.inl (some (vI (-1)))) σ))))) : WP mX11_partsOf 7 [vR 12 0, vI x1, vU, vU] [] σ Q := by
  refine wp_aload_n dX11_partsOf_7 rfl rfl ?_
  refine wp_getR dX11_partsOf_8 fl_CustomValley_55 rfl rfl ?_
  refine wp_getI dX11_partsOf_11 fl_CustomValley_303 rfl rfl rfl ?_
  refine wp_if_eq (tgt := 31) dX11_partsOf_14 (by decide) (fun hc => ?_) (fun hc => ?_)
  · replace h := h.1 hc
    refine wp_iconst dX11_partsOf_31 rfl ?_
    exact wp_iret dX11_partsOf_32 rfl h
  · replace h := h.2 hc
    refine wp_aload_n dX11_partsOf_17 rfl rfl ?_
    refine wp_getR dX11_partsOf_18 fl_CustomValley_28 rfl rfl ?_
    refine wp_getR dX11_partsOf_21 fl_CustomValley_187 rfl rfl ?_
    refine wp_iload_n dX11_partsOf_24 rfl rfl ?_
    refine wp_invV (N := mX4_has) [vI x1] dX11_partsOf_25 ml_CustomValley_196 mvX4_has rfl rfl rfl rfl rfl (Nat.le_of_ble_eq_true rfl) (Nat.le_of_ble_eq_true rfl) (by decide) (by decide) (by decide) ?_
    refine pb_X4_has (by trivial) ?_
    show WP mX11_partsOf 28 [vR 12 0, vI x1, vU, vU] [vI (b2 (0 ≤ x1 ∧ x1 < (σ 5 0 0)))] σ Q
    refine wp_if_ne (tgt := 33) dX11_partsOf_28 (by decide) (fun hc => ?_) (fun hc => ?_)
    · replace h := h.1 (b2_ne hc)
      refine wp_iconst dX11_partsOf_33 rfl ?_
      refine wp_istore_n dX11_partsOf_34 rfl (by decide) rfl rfl ?_
      refine wp_aload_n dX11_partsOf_35 rfl rfl ?_
      refine wp_getR dX11_partsOf_36 fl_CustomValley_28 rfl rfl ?_
      refine wp_getR dX11_partsOf_39 fl_CustomValley_187 rfl rfl ?_
      refine wp_getR dX11_partsOf_42 fl_CustomValley_212 rfl rfl ?_
      refine wp_iload_n dX11_partsOf_45 rfl rfl ?_
      have s1 := h.1
      replace h := h.2
      refine wp_iaload dX11_partsOf_46 rfl rfl s1.1 s1.2 ?_
      refine wp_istore_n dX11_partsOf_47 rfl (by decide) rfl rfl ?_
      exact h
    · replace h := h.2 (b2_eq hc)
      refine wp_iconst dX11_partsOf_31 rfl ?_
      exact wp_iret dX11_partsOf_32 rfl h
theorem b_X11_partsOf_48 {x1 : Int} {x2 : Int} {x3 : Int} {σ : St} {Q : Res → St → Prop} (h : (0 ≤ w32 (x1 + 1) ∧ (w32 (x1 + 1)) < 1025) ∧ ((((σ 30 0 ((w32 (x1 + 1)).toNat)) ≤ x3) → (Q (.inl (some (vI x2))) σ)) ∧ ((x3 < (σ 30 0 ((w32 (x1 + 1)).toNat))) → ((0 ≤ x3 ∧ x3 < 1024) ∧ ((0 ≤ σ 29 0 x3.toNat ∧ (σ 29 0 x3.toNat) < 1024) ∧ ((in32 (x3 + 1)) ∧ (WP mX11_partsOf 48 [vR 12 0, vI x1, vI (w32 (x2 + (σ 20 0 ((σ 29 0 x3.toNat).toNat)))), vI (x3 + 1)] [] σ Q))))))) : WP mX11_partsOf 48 [vR 12 0, vI x1, vI x2, vI x3] [] σ Q := by
  refine wp_iload_n dX11_partsOf_48 rfl rfl ?_
  refine wp_aload_n dX11_partsOf_49 rfl rfl ?_
  refine wp_getR dX11_partsOf_50 fl_CustomValley_28 rfl rfl ?_
  refine wp_getR dX11_partsOf_53 fl_CustomValley_187 rfl rfl ?_
  refine wp_getR dX11_partsOf_56 fl_CustomValley_212 rfl rfl ?_
  refine wp_iload_n dX11_partsOf_59 rfl rfl ?_
  refine wp_iconst dX11_partsOf_60 rfl ?_
  refine wp_iaddW dX11_partsOf_61 ?_
  have s4 := h.1
  replace h := h.2
  refine wp_iaload dX11_partsOf_62 rfl rfl s4.1 s4.2 ?_
  refine wp_icmp_ge (tgt := 95) dX11_partsOf_63 (by decide) (fun hc => ?_) (fun hc => ?_)
  · replace h := h.1 hc
    refine wp_iload_n dX11_partsOf_95 rfl rfl ?_
    exact wp_iret dX11_partsOf_96 rfl h
  · replace h := h.2 hc
    refine wp_iload_n dX11_partsOf_66 rfl rfl ?_
    refine wp_aload_n dX11_partsOf_67 rfl rfl ?_
    refine wp_getR dX11_partsOf_68 fl_CustomValley_55 rfl rfl ?_
    refine wp_getR dX11_partsOf_71 fl_CustomValley_306 rfl rfl ?_
    refine wp_aload_n dX11_partsOf_74 rfl rfl ?_
    refine wp_getR dX11_partsOf_75 fl_CustomValley_28 rfl rfl ?_
    refine wp_getR dX11_partsOf_78 fl_CustomValley_187 rfl rfl ?_
    refine wp_getR dX11_partsOf_81 fl_CustomValley_209 rfl rfl ?_
    refine wp_iload_n dX11_partsOf_84 rfl rfl ?_
    have s3 := h.1
    replace h := h.2
    refine wp_iaload dX11_partsOf_85 rfl rfl s3.1 s3.2 ?_
    have s2 := h.1
    replace h := h.2
    refine wp_iaload dX11_partsOf_86 rfl rfl s2.1 s2.2 ?_
    refine wp_iaddW dX11_partsOf_87 ?_
    refine wp_istore_n dX11_partsOf_88 rfl (by decide) rfl rfl ?_
    have s1 := h.1
    replace h := h.2
    refine wp_iinc dX11_partsOf_89 rfl (by decide) rfl rfl ?_ (h1 := s1.1) (h2 := s1.2)
    refine wp_goto (tgt := 48) dX11_partsOf_92 (by decide) ?_
    exact h
theorem dX11_radius_0 : decode cX11_radius 0 = .ok (.aload_n 0, 1) := by decide +kernel
theorem dX11_radius_1 : decode cX11_radius 1 = .ok (.getfield 28, 3) := by decide +kernel
theorem dX11_radius_4 : decode cX11_radius 4 = .ok (.invokevirtual 165, 3) := by decide +kernel
theorem dX11_radius_7 : decode cX11_radius 7 = .ok (.aload_n 0, 1) := by decide +kernel
theorem dX11_radius_8 : decode cX11_radius 8 = .ok (.getfield 28, 3) := by decide +kernel
theorem dX11_radius_11 : decode cX11_radius 11 = .ok (.getfield 187, 3) := by decide +kernel
theorem dX11_radius_14 : decode cX11_radius 14 = .ok (.iload_n 1, 1) := by decide +kernel
theorem dX11_radius_15 : decode cX11_radius 15 = .ok (.invokevirtual 196, 3) := by decide +kernel
theorem dX11_radius_18 : decode cX11_radius 18 = .ok (.ifCond .eq 18, 3) := by decide +kernel
theorem dX11_radius_21 : decode cX11_radius 21 = .ok (.aload_n 0, 1) := by decide +kernel
theorem dX11_radius_22 : decode cX11_radius 22 = .ok (.getfield 38, 3) := by decide +kernel
theorem dX11_radius_25 : decode cX11_radius 25 = .ok (.aload_n 0, 1) := by decide +kernel
theorem dX11_radius_26 : decode cX11_radius 26 = .ok (.getfield 28, 3) := by decide +kernel
theorem dX11_radius_29 : decode cX11_radius 29 = .ok (.iload_n 1, 1) := by decide +kernel
theorem dX11_radius_30 : decode cX11_radius 30 = .ok (.invokevirtual 258, 3) := by decide +kernel
theorem dX11_radius_33 : decode cX11_radius 33 = .ok (.goto 5, 3) := by decide +kernel
theorem dX11_radius_36 : decode cX11_radius 36 = .ok (.bipush (-2), 2) := by decide +kernel
theorem dX11_radius_38 : decode cX11_radius 38 = .ok (.ireturn, 1) := by decide +kernel
theorem b_X11_radius_0 {x1 : Int} {σ : St} {Q : Res → St → Prop} (h : WP mX1_ready 0 [vR 2 0] [] σ (CT mX11_radius 7 [vR 12 0, vI x1] [] Q)) : WP mX11_radius 0 [vR 12 0, vI x1] [] σ Q := by
  refine wp_aload_n dX11_radius_0 rfl rfl ?_
  refine wp_getR dX11_radius_1 fl_CustomValley_28 rfl rfl ?_
  refine wp_invV (N := mX1_ready) [] dX11_radius_4 ml_CustomValley_165 mvX1_ready rfl rfl rfl rfl rfl (Nat.le_of_ble_eq_true rfl) (Nat.le_of_ble_eq_true rfl) (by decide) (by decide) (by decide) ?_
  exact h
theorem b_X11_radius_7 {x1 : Int} {σ : St} {Q : Res → St → Prop} (h : ((¬ (0 ≤ x1 ∧ x1 < (σ 5 0 0))) → (Q (.inl (some (vI (-2)))) σ)) ∧ ((0 ≤ x1 ∧ x1 < (σ 5 0 0)) → (WP mX5_leave 0 [vR 6 0, vR 2 0, vI x1, vU, vU] [] σ (CT mX11_radius 33 [vU, vU] [] Q)))) : WP mX11_radius 7 [vR 12 0, vI x1] [] σ Q := by
  refine wp_aload_n dX11_radius_7 rfl rfl ?_
  refine wp_getR dX11_radius_8 fl_CustomValley_28 rfl rfl ?_
  refine wp_getR dX11_radius_11 fl_CustomValley_187 rfl rfl ?_
  refine wp_iload_n dX11_radius_14 rfl rfl ?_
  refine wp_invV (N := mX4_has) [vI x1] dX11_radius_15 ml_CustomValley_196 mvX4_has rfl rfl rfl rfl rfl (Nat.le_of_ble_eq_true rfl) (Nat.le_of_ble_eq_true rfl) (by decide) (by decide) (by decide) ?_
  refine pb_X4_has (by trivial) ?_
  show WP mX11_radius 18 [vR 12 0, vI x1] [vI (b2 (0 ≤ x1 ∧ x1 < (σ 5 0 0)))] σ Q
  refine wp_if_eq (tgt := 36) dX11_radius_18 (by decide) (fun hc => ?_) (fun hc => ?_)
  · replace h := h.1 (b2_eq hc)
    refine wp_bipush dX11_radius_36 rfl ?_
    exact wp_iret dX11_radius_38 rfl h
  · replace h := h.2 (b2_ne hc)
    refine wp_aload_n dX11_radius_21 rfl rfl ?_
    refine wp_getR dX11_radius_22 fl_CustomValley_38 rfl rfl ?_
    refine wp_aload_n dX11_radius_25 rfl rfl ?_
    refine wp_getR dX11_radius_26 fl_CustomValley_28 rfl rfl ?_
    refine wp_iload_n dX11_radius_29 rfl rfl ?_
    refine wp_invV (N := mX5_leave) [vR 2 0, vI x1] dX11_radius_30 ml_CustomValley_258 mvX5_leave rfl rfl rfl rfl rfl (Nat.le_of_ble_eq_true rfl) (Nat.le_of_ble_eq_true rfl) (by decide) (by decide) (by decide) ?_
    exact WP.mono h (ct_drop (lle_c (Or.inr rfl) (lle_c (Or.inr rfl) lle_n)))
theorem b_X11_radius_33 {t0 : Int} {σ : St} {Q : Res → St → Prop} (h : Q (.inl (some (vI t0))) σ) : WP mX11_radius 33 [vU, vU] [vI t0] σ Q := by
  refine wp_goto (tgt := 38) dX11_radius_33 (by decide) ?_
  exact wp_iret dX11_radius_38 rfl h
theorem dX11_rest_0 : decode cX11_rest 0 = .ok (.aload_n 0, 1) := by decide +kernel
theorem dX11_rest_1 : decode cX11_rest 1 = .ok (.getfield 28, 3) := by decide +kernel
theorem dX11_rest_4 : decode cX11_rest 4 = .ok (.invokevirtual 165, 3) := by decide +kernel
theorem dX11_rest_7 : decode cX11_rest 7 = .ok (.aload_n 0, 1) := by decide +kernel
theorem dX11_rest_8 : decode cX11_rest 8 = .ok (.getfield 28, 3) := by decide +kernel
theorem dX11_rest_11 : decode cX11_rest 11 = .ok (.getfield 187, 3) := by decide +kernel
theorem dX11_rest_14 : decode cX11_rest 14 = .ok (.astore_n 3, 1) := by decide +kernel
theorem dX11_rest_15 : decode cX11_rest 15 = .ok (.aload_n 3, 1) := by decide +kernel
theorem dX11_rest_16 : decode cX11_rest 16 = .ok (.iload_n 1, 1) := by decide +kernel
theorem dX11_rest_17 : decode cX11_rest 17 = .ok (.invokevirtual 196, 3) := by decide +kernel
theorem dX11_rest_20 : decode cX11_rest 20 = .ok (.ifCond .ne 5, 3) := by decide +kernel
theorem dX11_rest_23 : decode cX11_rest 23 = .ok (.iconst (-1), 1) := by decide +kernel
theorem dX11_rest_24 : decode cX11_rest 24 = .ok (.ireturn, 1) := by decide +kernel
theorem dX11_rest_25 : decode cX11_rest 25 = .ok (.iload_n 2, 1) := by decide +kernel
theorem dX11_rest_26 : decode cX11_rest 26 = .ok (.tableswitch 45 0 2 #[26, 32, 38], 26) := by decide +kernel
theorem dX11_rest_52 : decode cX11_rest 52 = .ok (.aload_n 3, 1) := by decide +kernel
theorem dX11_rest_53 : decode cX11_rest 53 = .ok (.iload_n 1, 1) := by decide +kernel
theorem dX11_rest_54 : decode cX11_rest 54 = .ok (.invokevirtual 199, 3) := by decide +kernel
theorem dX11_rest_57 : decode cX11_rest 57 = .ok (.ireturn, 1) := by decide +kernel
theorem dX11_rest_58 : decode cX11_rest 58 = .ok (.aload_n 3, 1) := by decide +kernel
theorem dX11_rest_59 : decode cX11_rest 59 = .ok (.iload_n 1, 1) := by decide +kernel
theorem dX11_rest_60 : decode cX11_rest 60 = .ok (.invokevirtual 203, 3) := by decide +kernel
theorem dX11_rest_63 : decode cX11_rest 63 = .ok (.ireturn, 1) := by decide +kernel
theorem dX11_rest_64 : decode cX11_rest 64 = .ok (.aload_n 3, 1) := by decide +kernel
theorem dX11_rest_65 : decode cX11_rest 65 = .ok (.getfield 206, 3) := by decide +kernel
theorem dX11_rest_68 : decode cX11_rest 68 = .ok (.iload_n 1, 1) := by decide +kernel
theorem dX11_rest_69 : decode cX11_rest 69 = .ok (.iaload, 1) := by decide +kernel
theorem dX11_rest_70 : decode cX11_rest 70 = .ok (.ireturn, 1) := by decide +kernel
theorem dX11_rest_71 : decode cX11_rest 71 = .ok (.iload_n 2, 1) := by decide +kernel
theorem dX11_rest_72 : decode cX11_rest 72 = .ok (.bipush 10, 2) := by decide +kernel
theorem dX11_rest_74 : decode cX11_rest 74 = .ok (.if_icmp .lt 19, 3) := by decide +kernel
theorem dX11_rest_77 : decode cX11_rest 77 = .ok (.iload_n 2, 1) := by decide +kernel
theorem dX11_rest_78 : decode cX11_rest 78 = .ok (.bipush 10, 2) := by decide +kernel
theorem dX11_rest_80 : decode cX11_rest 80 = .ok (.isub, 1) := by decide +kernel
theorem dX11_rest_81 : decode cX11_rest 81 = .ok (.aload_n 3, 1) := by decide +kernel
theorem dX11_rest_82 : decode cX11_rest 82 = .ok (.iload_n 1, 1) := by decide +kernel
theorem dX11_rest_83 : decode cX11_rest 83 = .ok (.invokevirtual 203, 3) := by decide +kernel
theorem dX11_rest_86 : decode cX11_rest 86 = .ok (.if_icmp .ge 7, 3) := by decide +kernel
theorem dX11_rest_89 : decode cX11_rest 89 = .ok (.iconst 1, 1) := by decide +kernel
theorem dX11_rest_90 : decode cX11_rest 90 = .ok (.goto 4, 3) := by decide +kernel
theorem dX11_rest_93 : decode cX11_rest 93 = .ok (.iconst 0, 1) := by decide +kernel
theorem dX11_rest_94 : decode cX11_rest 94 = .ok (.istore 4, 2) := by decide +kernel
theorem dX11_rest_96 : decode cX11_rest 96 = .ok (.iload 4, 2) := by decide +kernel
theorem dX11_rest_98 : decode cX11_rest 98 = .ok (.ifCond .eq 22, 3) := by decide +kernel
theorem dX11_rest_101 : decode cX11_rest 101 = .ok (.aload_n 3, 1) := by decide +kernel
theorem dX11_rest_102 : decode cX11_rest 102 = .ok (.getfield 209, 3) := by decide +kernel
theorem dX11_rest_105 : decode cX11_rest 105 = .ok (.aload_n 3, 1) := by decide +kernel
theorem dX11_rest_106 : decode cX11_rest 106 = .ok (.getfield 212, 3) := by decide +kernel
theorem dX11_rest_109 : decode cX11_rest 109 = .ok (.iload_n 1, 1) := by decide +kernel
theorem dX11_rest_110 : decode cX11_rest 110 = .ok (.iaload, 1) := by decide +kernel
theorem dX11_rest_111 : decode cX11_rest 111 = .ok (.iload_n 2, 1) := by decide +kernel
theorem dX11_rest_112 : decode cX11_rest 112 = .ok (.iadd, 1) := by decide +kernel
theorem dX11_rest_113 : decode cX11_rest 113 = .ok (.bipush 10, 2) := by decide +kernel
theorem dX11_rest_115 : decode cX11_rest 115 = .ok (.isub, 1) := by decide +kernel
theorem dX11_rest_116 : decode cX11_rest 116 = .ok (.iaload, 1) := by decide +kernel
theorem dX11_rest_117 : decode cX11_rest 117 = .ok (.goto 4, 3) := by decide +kernel
theorem dX11_rest_120 : decode cX11_rest 120 = .ok (.iconst (-1), 1) := by decide +kernel
theorem dX11_rest_121 : decode cX11_rest 121 = .ok (.ireturn, 1) := by decide +kernel
theorem b_X11_rest_0 {x1 : Int} {x2 : Int} {σ : St} {Q : Res → St → Prop} (h : WP mX1_ready 0 [vR 2 0] [] σ (CT mX11_rest 7 [vR 12 0, vI x1, vI x2, vU, vU] [] Q)) : WP mX11_rest 0 [vR 12 0, vI x1, vI x2, vU, vU] [] σ Q := by
  refine wp_aload_n dX11_rest_0 rfl rfl ?_
  refine wp_getR dX11_rest_1 fl_CustomValley_28 rfl rfl ?_
  refine wp_invV (N := mX1_ready) [] dX11_rest_4 ml_CustomValley_165 mvX1_ready rfl rfl rfl rfl rfl (Nat.le_of_ble_eq_true rfl) (Nat.le_of_ble_eq_true rfl) (by decide) (by decide) (by decide) ?_
  exact h
theorem b_X11_rest_7 {x1 : Int} {x2 : Int} {σ : St} {Q : Res → St → Prop} (h : ((0 ≤ x1 ∧ x1 < (σ 5 0 0)) → ((x2 = 0 → ((0 ≤ x1 ∧ x1 < 1025 ∧ 0 ≤ σ 30 0 x1.toNat ∧ (σ 30 0 x1.toNat) < 1024) ∧ (Q (.inl (some (vI (σ 29 0 ((σ 30 0 x1.toNat).toNat))))) σ))) ∧ (x2 = 1 → ((in32 (x1 + 1) ∧ 0 ≤ x1 + 1 ∧ (x1 + 1) < 1025 ∧ 0 ≤ x1 ∧ x1 < 1025 ∧ in32 ((σ 30 0 ((x1 + 1).toNat)) - (σ 30 0 x1.toNat))) ∧ (Q (.inl (some (vI ((σ 30 0 ((x1 + 1).toNat)) - (σ 30 0 x1.toNat))))) σ))) ∧ (x2 = 2 → ((0 ≤ x1 ∧ x1 < 1024) ∧ (Q (.inl (some (vI (σ 31 0 x1.toNat)))) σ))) ∧ ((x2 < 0 ∨ 2 < x2) → (((x2 < 10) → (WP mX11_rest 93 [vU, vI x1, vI x2, vR 5 0, vU] [] σ Q)) ∧ ((10 ≤ x2) → ((in32 (x2 - 10)) ∧ ((in32 (x1 + 1) ∧ 0 ≤ x1 + 1 ∧ (x1 + 1) < 1025 ∧ 0 ≤ x1 ∧ x1 < 1025 ∧ in32 ((σ 30 0 ((x1 + 1).toNat)) - (σ 30 0 x1.toNat))) ∧ (((((σ 30 0 ((x1 + 1).toNat)) - (σ 30 0 x1.toNat)) ≤ (x2 - 10)) → (WP mX11_rest 93 [vU, vI x1, vI x2, vR 5 0, vU] [] σ Q)) ∧ (((x2 - 10) < ((σ 30 0 ((x1 + 1).toNat)) - (σ 30 0 x1.toNat))) → (WP mX11_rest 94 [vU, vI x1, vI x2, vR 5 0, vU] [vI 1] σ Q)))))))))) ∧ ((¬ (0 ≤ x1 ∧ x1 < (σ 5 0 0))) → (Q (.inl (some (vI (-1)))) σ))) : WP mX11_rest 7 [vR 12 0, vI x1, vI x2, vU, vU] [] σ Q := by
  refine wp_aload_n dX11_rest_7 rfl rfl ?_
  refine wp_getR dX11_rest_8 fl_CustomValley_28 rfl rfl ?_
  refine wp_getR dX11_rest_11 fl_CustomValley_187 rfl rfl ?_
  refine wp_astore_n dX11_rest_14 rfl (by decide) rfl rfl ?_
  refine wp_aload_n dX11_rest_15 rfl rfl ?_
  refine wp_iload_n dX11_rest_16 rfl rfl ?_
  refine wp_invV (N := mX4_has) [vI x1] dX11_rest_17 ml_CustomValley_196 mvX4_has rfl rfl rfl rfl rfl (Nat.le_of_ble_eq_true rfl) (Nat.le_of_ble_eq_true rfl) (by decide) (by decide) (by decide) ?_
  refine pb_X4_has (by trivial) ?_
  show WP mX11_rest 20 [vR 12 0, vI x1, vI x2, vR 5 0, vU] [vI (b2 (0 ≤ x1 ∧ x1 < (σ 5 0 0)))] σ Q
  refine wp_if_ne (tgt := 25) dX11_rest_20 (by decide) (fun hc => ?_) (fun hc => ?_)
  · replace h := h.1 (b2_ne hc)
    refine wp_iload_n dX11_rest_25 rfl rfl ?_
    by_cases q0 : x2 = 0
    · refine wp_tsIn (tgt := 52) dX11_rest_26 (by omega) (by omega) (by rw [q0]; rfl) (by decide) ?_
      replace h := h.1 q0
      refine wp_aload_n dX11_rest_52 rfl rfl ?_
      refine wp_iload_n dX11_rest_53 rfl rfl ?_
      have s1 := h.1
      replace h := h.2
      refine wp_invV (N := mX4_least) [vI x1] dX11_rest_54 ml_CustomValley_199 mvX4_least rfl rfl rfl rfl rfl (Nat.le_of_ble_eq_true rfl) (Nat.le_of_ble_eq_true rfl) (by decide) (by decide) (by decide) ?_
      refine pb_X4_least s1 ?_
      show WP mX11_rest 57 [vR 12 0, vI x1, vI x2, vR 5 0, vU] [vI (σ 29 0 ((σ 30 0 x1.toNat).toNat))] σ Q
      exact wp_iret dX11_rest_57 rfl h
    · replace h := h.2
      by_cases q1 : x2 = 1
      · refine wp_tsIn (tgt := 58) dX11_rest_26 (by omega) (by omega) (by rw [q1]; rfl) (by decide) ?_
        replace h := h.1 q1
        refine wp_aload_n dX11_rest_58 rfl rfl ?_
        refine wp_iload_n dX11_rest_59 rfl rfl ?_
        have s2 := h.1
        replace h := h.2
        refine wp_invV (N := mX4_size) [vI x1] dX11_rest_60 ml_CustomValley_203 mvX4_size rfl rfl rfl rfl rfl (Nat.le_of_ble_eq_true rfl) (Nat.le_of_ble_eq_true rfl) (by decide) (by decide) (by decide) ?_
        refine pb_X4_size s2 ?_
        show WP mX11_rest 63 [vR 12 0, vI x1, vI x2, vR 5 0, vU] [vI ((σ 30 0 ((x1 + 1).toNat)) - (σ 30 0 x1.toNat))] σ Q
        exact wp_iret dX11_rest_63 rfl h
      · replace h := h.2
        by_cases q2 : x2 = 2
        · refine wp_tsIn (tgt := 64) dX11_rest_26 (by omega) (by omega) (by rw [q2]; rfl) (by decide) ?_
          replace h := h.1 q2
          refine wp_aload_n dX11_rest_64 rfl rfl ?_
          refine wp_getR dX11_rest_65 fl_CustomValley_206 rfl rfl ?_
          refine wp_iload_n dX11_rest_68 rfl rfl ?_
          have s3 := h.1
          replace h := h.2
          refine wp_iaload dX11_rest_69 rfl rfl s3.1 s3.2 ?_
          exact wp_iret dX11_rest_70 rfl h
        · replace h := h.2
          refine wp_tsOut (tgt := 71) dX11_rest_26 (by omega) (by decide) ?_
          replace h := h (by omega)
          refine wp_iload_n dX11_rest_71 rfl rfl ?_
          refine wp_bipush dX11_rest_72 rfl ?_
          refine wp_icmp_lt (tgt := 93) dX11_rest_74 (by decide) (fun hc => ?_) (fun hc => ?_)
          · replace h := h.1 hc
            exact wp_drop (als' := [vU, vI x1, vI x2, vR 5 0, vU]) (lle_c (Or.inr rfl) (lle_c (Or.inl rfl) (lle_c (Or.inl rfl) (lle_c (Or.inl rfl) (lle_c (Or.inl rfl) lle_n))))) h
          · replace h := h.2 hc
            refine wp_iload_n dX11_rest_77 rfl rfl ?_
            refine wp_bipush dX11_rest_78 rfl ?_
            have s5 := h.1
            replace h := h.2
            refine wp_isub dX11_rest_80 ?_ (h1 := s5.1) (h2 := s5.2)
            refine wp_aload_n dX11_rest_81 rfl rfl ?_
            refine wp_iload_n dX11_rest_82 rfl rfl ?_
            have s4 := h.1
            replace h := h.2
            refine wp_invV (N := mX4_size) [vI x1] dX11_rest_83 ml_CustomValley_203 mvX4_size rfl rfl rfl rfl rfl (Nat.le_of_ble_eq_true rfl) (Nat.le_of_ble_eq_true rfl) (by decide) (by decide) (by decide) ?_
            refine pb_X4_size s4 ?_
            show WP mX11_rest 86 [vR 12 0, vI x1, vI x2, vR 5 0, vU] [vI ((σ 30 0 ((x1 + 1).toNat)) - (σ 30 0 x1.toNat)), vI (x2 - 10)] σ Q
            refine wp_icmp_ge (tgt := 93) dX11_rest_86 (by decide) (fun hc => ?_) (fun hc => ?_)
            · replace h := h.1 hc
              exact wp_drop (als' := [vU, vI x1, vI x2, vR 5 0, vU]) (lle_c (Or.inr rfl) (lle_c (Or.inl rfl) (lle_c (Or.inl rfl) (lle_c (Or.inl rfl) (lle_c (Or.inl rfl) lle_n))))) h
            · replace h := h.2 hc
              refine wp_iconst dX11_rest_89 rfl ?_
              refine wp_goto (tgt := 94) dX11_rest_90 (by decide) ?_
              exact wp_drop (als' := [vU, vI x1, vI x2, vR 5 0, vU]) (lle_c (Or.inr rfl) (lle_c (Or.inl rfl) (lle_c (Or.inl rfl) (lle_c (Or.inl rfl) (lle_c (Or.inl rfl) lle_n))))) h
  · replace h := h.2 (b2_eq hc)
    refine wp_iconst dX11_rest_23 rfl ?_
    exact wp_iret dX11_rest_24 rfl h
theorem b_X11_rest_93 {x1 : Int} {x2 : Int} {σ : St} {Q : Res → St → Prop} (h : WP mX11_rest 94 [vU, vI x1, vI x2, vR 5 0, vU] [vI 0] σ Q) : WP mX11_rest 93 [vU, vI x1, vI x2, vR 5 0, vU] [] σ Q := by
  refine wp_iconst dX11_rest_93 rfl ?_
  exact h
theorem b_X11_rest_94 {x1 : Int} {x2 : Int} {t0 : Int} {σ : St} {Q : Res → St → Prop} (h : ((t0 = 0) → (Q (.inl (some (vI (-1)))) σ)) ∧ ((t0 ≠ 0) → ((0 ≤ x1 ∧ x1 < 1025) ∧ ((in32 ((σ 30 0 x1.toNat) + x2)) ∧ ((in32 (((σ 30 0 x1.toNat) + x2) - 10)) ∧ ((0 ≤ ((σ 30 0 x1.toNat) + x2) - 10 ∧ (((σ 30 0 x1.toNat) + x2) - 10) < 1024) ∧ (Q (.inl (some (vI (σ 29 0 ((((σ 30 0 x1.toNat) + x2) - 10).toNat))))) σ))))))) : WP mX11_rest 94 [vU, vI x1, vI x2, vR 5 0, vU] [vI t0] σ Q := by
  refine wp_istore dX11_rest_94 (by decide) rfl rfl ?_
  refine wp_iload dX11_rest_96 rfl ?_
  refine wp_if_eq (tgt := 120) dX11_rest_98 (by decide) (fun hc => ?_) (fun hc => ?_)
  · replace h := h.1 hc
    refine wp_iconst dX11_rest_120 rfl ?_
    exact wp_iret dX11_rest_121 rfl h
  · replace h := h.2 hc
    refine wp_aload_n dX11_rest_101 rfl rfl ?_
    refine wp_getR dX11_rest_102 fl_CustomValley_209 rfl rfl ?_
    refine wp_aload_n dX11_rest_105 rfl rfl ?_
    refine wp_getR dX11_rest_106 fl_CustomValley_212 rfl rfl ?_
    refine wp_iload_n dX11_rest_109 rfl rfl ?_
    have s4 := h.1
    replace h := h.2
    refine wp_iaload dX11_rest_110 rfl rfl s4.1 s4.2 ?_
    refine wp_iload_n dX11_rest_111 rfl rfl ?_
    have s3 := h.1
    replace h := h.2
    refine wp_iadd dX11_rest_112 ?_ (h1 := s3.1) (h2 := s3.2)
    refine wp_bipush dX11_rest_113 rfl ?_
    have s2 := h.1
    replace h := h.2
    refine wp_isub dX11_rest_115 ?_ (h1 := s2.1) (h2 := s2.2)
    have s1 := h.1
    replace h := h.2
    refine wp_iaload dX11_rest_116 rfl rfl s1.1 s1.2 ?_
    refine wp_goto (tgt := 121) dX11_rest_117 (by decide) ?_
    exact wp_iret dX11_rest_121 rfl h
theorem dX11_restOf_0 : decode cX11_restOf 0 = .ok (.aload_n 0, 1) := by decide +kernel
theorem dX11_restOf_1 : decode cX11_restOf 1 = .ok (.getfield 28, 3) := by decide +kernel
theorem dX11_restOf_4 : decode cX11_restOf 4 = .ok (.getfield 103, 3) := by decide +kernel
theorem dX11_restOf_7 : decode cX11_restOf 7 = .ok (.iload_n 1, 1) := by decide +kernel
theorem dX11_restOf_8 : decode cX11_restOf 8 = .ok (.invokevirtual 151, 3) := by decide +kernel
theorem dX11_restOf_11 : decode cX11_restOf 11 = .ok (.ifCond .ne 6, 3) := by decide +kernel
theorem dX11_restOf_14 : decode cX11_restOf 14 = .ok (.bipush (-2), 2) := by decide +kernel
theorem dX11_restOf_16 : decode cX11_restOf 16 = .ok (.ireturn, 1) := by decide +kernel
theorem dX11_restOf_17 : decode cX11_restOf 17 = .ok (.aload_n 0, 1) := by decide +kernel
theorem dX11_restOf_18 : decode cX11_restOf 18 = .ok (.getfield 28, 3) := by decide +kernel
theorem dX11_restOf_21 : decode cX11_restOf 21 = .ok (.invokevirtual 165, 3) := by decide +kernel
theorem dX11_restOf_24 : decode cX11_restOf 24 = .ok (.aload_n 0, 1) := by decide +kernel
theorem dX11_restOf_25 : decode cX11_restOf 25 = .ok (.getfield 28, 3) := by decide +kernel
theorem dX11_restOf_28 : decode cX11_restOf 28 = .ok (.getfield 187, 3) := by decide +kernel
theorem dX11_restOf_31 : decode cX11_restOf 31 = .ok (.getfield 215, 3) := by decide +kernel
theorem dX11_restOf_34 : decode cX11_restOf 34 = .ok (.iload_n 1, 1) := by decide +kernel
theorem dX11_restOf_35 : decode cX11_restOf 35 = .ok (.iaload, 1) := by decide +kernel
theorem dX11_restOf_36 : decode cX11_restOf 36 = .ok (.ireturn, 1) := by decide +kernel
theorem b_X11_restOf_0 {x1 : Int} {σ : St} {Q : Res → St → Prop} (h : WP mX9_isState 0 [vR 10 0, vI x1, vU] [] σ (CT mX11_restOf 11 [vR 12 0, vI x1] [] Q)) : WP mX11_restOf 0 [vR 12 0, vI x1] [] σ Q := by
  refine wp_aload_n dX11_restOf_0 rfl rfl ?_
  refine wp_getR dX11_restOf_1 fl_CustomValley_28 rfl rfl ?_
  refine wp_getR dX11_restOf_4 fl_CustomValley_103 rfl rfl ?_
  refine wp_iload_n dX11_restOf_7 rfl rfl ?_
  refine wp_invV (N := mX9_isState) [vI x1] dX11_restOf_8 ml_CustomValley_151 mvX9_isState rfl rfl rfl rfl rfl (Nat.le_of_ble_eq_true rfl) (Nat.le_of_ble_eq_true rfl) (by decide) (by decide) (by decide) ?_
  exact h
theorem b_X11_restOf_11 {x1 : Int} {t0 : Int} {σ : St} {Q : Res → St → Prop} (h : ((t0 ≠ 0) → (WP mX1_ready 0 [vR 2 0] [] σ (CT mX11_restOf 24 [vR 12 0, vI x1] [] Q))) ∧ ((t0 = 0) → (Q (.inl (some (vI (-2)))) σ))) : WP mX11_restOf 11 [vR 12 0, vI x1] [vI t0] σ Q := by
  refine wp_if_ne (tgt := 17) dX11_restOf_11 (by decide) (fun hc => ?_) (fun hc => ?_)
  · replace h := h.1 hc
    refine wp_aload_n dX11_restOf_17 rfl rfl ?_
    refine wp_getR dX11_restOf_18 fl_CustomValley_28 rfl rfl ?_
    refine wp_invV (N := mX1_ready) [] dX11_restOf_21 ml_CustomValley_165 mvX1_ready rfl rfl rfl rfl rfl (Nat.le_of_ble_eq_true rfl) (Nat.le_of_ble_eq_true rfl) (by decide) (by decide) (by decide) ?_
    exact h
  · replace h := h.2 hc
    refine wp_bipush dX11_restOf_14 rfl ?_
    exact wp_iret dX11_restOf_16 rfl h
theorem b_X11_restOf_24 {x1 : Int} {σ : St} {Q : Res → St → Prop} (h : (0 ≤ x1 ∧ x1 < 1024) ∧ (Q (.inl (some (vI (σ 27 0 x1.toNat)))) σ)) : WP mX11_restOf 24 [vR 12 0, vI x1] [] σ Q := by
  refine wp_aload_n dX11_restOf_24 rfl rfl ?_
  refine wp_getR dX11_restOf_25 fl_CustomValley_28 rfl rfl ?_
  refine wp_getR dX11_restOf_28 fl_CustomValley_187 rfl rfl ?_
  refine wp_getR dX11_restOf_31 fl_CustomValley_215 rfl rfl ?_
  refine wp_iload_n dX11_restOf_34 rfl rfl ?_
  have s1 := h.1
  replace h := h.2
  refine wp_iaload dX11_restOf_35 rfl rfl s1.1 s1.2 ?_
  exact wp_iret dX11_restOf_36 rfl h
theorem dX11_rests_0 : decode cX11_rests 0 = .ok (.aload_n 0, 1) := by decide +kernel
theorem dX11_rests_1 : decode cX11_rests 1 = .ok (.getfield 28, 3) := by decide +kernel
theorem dX11_rests_4 : decode cX11_rests 4 = .ok (.invokevirtual 165, 3) := by decide +kernel
theorem dX11_rests_7 : decode cX11_rests 7 = .ok (.aload_n 0, 1) := by decide +kernel
theorem dX11_rests_8 : decode cX11_rests 8 = .ok (.getfield 28, 3) := by decide +kernel
theorem dX11_rests_11 : decode cX11_rests 11 = .ok (.getfield 187, 3) := by decide +kernel
theorem dX11_rests_14 : decode cX11_rests 14 = .ok (.getfield 191, 3) := by decide +kernel
theorem dX11_rests_17 : decode cX11_rests 17 = .ok (.ireturn, 1) := by decide +kernel
theorem b_X11_rests_0  {σ : St} {Q : Res → St → Prop} (h : WP mX1_ready 0 [vR 2 0] [] σ (CT mX11_rests 7 [vR 12 0] [] Q)) : WP mX11_rests 0 [vR 12 0] [] σ Q := by
  refine wp_aload_n dX11_rests_0 rfl rfl ?_
  refine wp_getR dX11_rests_1 fl_CustomValley_28 rfl rfl ?_
  refine wp_invV (N := mX1_ready) [] dX11_rests_4 ml_CustomValley_165 mvX1_ready rfl rfl rfl rfl rfl (Nat.le_of_ble_eq_true rfl) (Nat.le_of_ble_eq_true rfl) (by decide) (by decide) (by decide) ?_
  exact h
theorem b_X11_rests_7  {σ : St} {Q : Res → St → Prop} (h : Q (.inl (some (vI (σ 5 0 0)))) σ) : WP mX11_rests 7 [vR 12 0] [] σ Q := by
  refine wp_aload_n dX11_rests_7 rfl rfl ?_
  refine wp_getR dX11_rests_8 fl_CustomValley_28 rfl rfl ?_
  refine wp_getR dX11_rests_11 fl_CustomValley_187 rfl rfl ?_
  refine wp_getI dX11_rests_14 fl_CustomValley_191 rfl rfl rfl ?_
  exact wp_iret dX11_rests_17 rfl h
theorem dX11_run_0 : decode cX11_run 0 = .ok (.aload_n 0, 1) := by decide +kernel
theorem dX11_run_1 : decode cX11_run 1 = .ok (.getfield 28, 3) := by decide +kernel
theorem dX11_run_4 : decode cX11_run 4 = .ok (.getfield 103, 3) := by decide +kernel
theorem dX11_run_7 : decode cX11_run 7 = .ok (.iload_n 1, 1) := by decide +kernel
theorem dX11_run_8 : decode cX11_run 8 = .ok (.invokevirtual 151, 3) := by decide +kernel
theorem dX11_run_11 : decode cX11_run 11 = .ok (.ifCond .eq 27, 3) := by decide +kernel
theorem dX11_run_14 : decode cX11_run 14 = .ok (.iload_n 2, 1) := by decide +kernel
theorem dX11_run_15 : decode cX11_run 15 = .ok (.ifCond .lt 23, 3) := by decide +kernel
theorem dX11_run_18 : decode cX11_run 18 = .ok (.iload_n 3, 1) := by decide +kernel
theorem dX11_run_19 : decode cX11_run 19 = .ok (.iconst 1, 1) := by decide +kernel
theorem dX11_run_20 : decode cX11_run 20 = .ok (.if_icmp .lt 18, 3) := by decide +kernel
theorem dX11_run_23 : decode cX11_run 23 = .ok (.iload_n 3, 1) := by decide +kernel
theorem dX11_run_24 : decode cX11_run 24 = .ok (.sipush 5000, 3) := by decide +kernel
theorem dX11_run_27 : decode cX11_run 27 = .ok (.if_icmp .gt 11, 3) := by decide +kernel
theorem dX11_run_30 : decode cX11_run 30 = .ok (.iload 4, 2) := by decide +kernel
theorem dX11_run_32 : decode cX11_run 32 = .ok (.invokestatic 296, 3) := by decide +kernel
theorem dX11_run_35 : decode cX11_run 35 = .ok (.ifCond .ne 6, 3) := by decide +kernel
theorem dX11_run_38 : decode cX11_run 38 = .ok (.bipush (-2), 2) := by decide +kernel
theorem dX11_run_40 : decode cX11_run 40 = .ok (.ireturn, 1) := by decide +kernel
theorem dX11_run_41 : decode cX11_run 41 = .ok (.aload_n 0, 1) := by decide +kernel
theorem dX11_run_42 : decode cX11_run 42 = .ok (.getfield 28, 3) := by decide +kernel
theorem dX11_run_45 : decode cX11_run 45 = .ok (.getfield 103, 3) := by decide +kernel
theorem dX11_run_48 : decode cX11_run 48 = .ok (.getfield 309, 3) := by decide +kernel
theorem dX11_run_51 : decode cX11_run 51 = .ok (.ifCond .ne 6, 3) := by decide +kernel
theorem dX11_run_54 : decode cX11_run 54 = .ok (.bipush (-4), 2) := by decide +kernel
theorem dX11_run_56 : decode cX11_run 56 = .ok (.ireturn, 1) := by decide +kernel
theorem dX11_run_57 : decode cX11_run 57 = .ok (.aload_n 0, 1) := by decide +kernel
theorem dX11_run_58 : decode cX11_run 58 = .ok (.getfield 28, 3) := by decide +kernel
theorem dX11_run_61 : decode cX11_run 61 = .ok (.invokevirtual 165, 3) := by decide +kernel
theorem dX11_run_64 : decode cX11_run 64 = .ok (.aload_n 0, 1) := by decide +kernel
theorem dX11_run_65 : decode cX11_run 65 = .ok (.getfield 62, 3) := by decide +kernel
theorem dX11_run_68 : decode cX11_run 68 = .ok (.aload_n 0, 1) := by decide +kernel
theorem dX11_run_69 : decode cX11_run 69 = .ok (.getfield 28, 3) := by decide +kernel
theorem dX11_run_72 : decode cX11_run 72 = .ok (.iload_n 1, 1) := by decide +kernel
theorem dX11_run_73 : decode cX11_run 73 = .ok (.iload_n 2, 1) := by decide +kernel
theorem dX11_run_74 : decode cX11_run 74 = .ok (.iload_n 3, 1) := by decide +kernel
theorem dX11_run_75 : decode cX11_run 75 = .ok (.iload 4, 2) := by decide +kernel
theorem dX11_run_77 : decode cX11_run 77 = .ok (.invokevirtual 312, 3) := by decide +kernel
theorem dX11_run_80 : decode cX11_run 80 = .ok (.aload_n 0, 1) := by decide +kernel
theorem dX11_run_81 : decode cX11_run 81 = .ok (.getfield 62, 3) := by decide +kernel
theorem dX11_run_84 : decode cX11_run 84 = .ok (.getfield 316, 3) := by decide +kernel
theorem dX11_run_87 : decode cX11_run 87 = .ok (.ireturn, 1) := by decide +kernel
theorem b_X11_run_0 {x1 : Int} {x2 : Int} {x3 : Int} {x4 : Int} {σ : St} {Q : Res → St → Prop} (h : WP mX9_isState 0 [vR 10 0, vI x1, vU] [] σ (CT mX11_run 11 [vR 12 0, vI x1, vI x2, vI x3, vI x4] [] Q)) : WP mX11_run 0 [vR 12 0, vI x1, vI x2, vI x3, vI x4] [] σ Q := by
  refine wp_aload_n dX11_run_0 rfl rfl ?_
  refine wp_getR dX11_run_1 fl_CustomValley_28 rfl rfl ?_
  refine wp_getR dX11_run_4 fl_CustomValley_103 rfl rfl ?_
  refine wp_iload_n dX11_run_7 rfl rfl ?_
  refine wp_invV (N := mX9_isState) [vI x1] dX11_run_8 ml_CustomValley_151 mvX9_isState rfl rfl rfl rfl rfl (Nat.le_of_ble_eq_true rfl) (Nat.le_of_ble_eq_true rfl) (by decide) (by decide) (by decide) ?_
  exact h
theorem b_X11_run_11 {x1 : Int} {x2 : Int} {x3 : Int} {x4 : Int} {t0 : Int} {σ : St} {Q : Res → St → Prop} (h : ((t0 = 0) → (Q (.inl (some (vI (-2)))) σ)) ∧ ((t0 ≠ 0) → (((x2 < 0) → (Q (.inl (some (vI (-2)))) σ)) ∧ ((0 ≤ x2) → (((x3 < 1) → (Q (.inl (some (vI (-2)))) σ)) ∧ ((1 ≤ x3) → (((5000 < x3) → (Q (.inl (some (vI (-2)))) σ)) ∧ ((x3 ≤ 5000) → (((2 ≤ x4 ∧ x4 ≤ 1000) → ((((σ 10 0 10) ≠ 0) → (WP mX1_ready 0 [vR 2 0] [] σ (CT mX11_run 64 [vR 12 0, vI x1, vI x2, vI x3, vI x4] [] Q))) ∧ (((σ 10 0 10) = 0) → (Q (.inl (some (vI (-4)))) σ)))) ∧ ((¬ (2 ≤ x4 ∧ x4 ≤ 1000)) → (Q (.inl (some (vI (-2)))) σ))))))))))) : WP mX11_run 11 [vR 12 0, vI x1, vI x2, vI x3, vI x4] [vI t0] σ Q := by
  refine wp_if_eq (tgt := 38) dX11_run_11 (by decide) (fun hc => ?_) (fun hc => ?_)
  · replace h := h.1 hc
    refine wp_bipush dX11_run_38 rfl ?_
    exact wp_iret dX11_run_40 rfl h
  · replace h := h.2 hc
    refine wp_iload_n dX11_run_14 rfl rfl ?_
    refine wp_if_lt (tgt := 38) dX11_run_15 (by decide) (fun hc => ?_) (fun hc => ?_)
    · replace h := h.1 hc
      refine wp_bipush dX11_run_38 rfl ?_
      exact wp_iret dX11_run_40 rfl h
    · replace h := h.2 hc
      refine wp_iload_n dX11_run_18 rfl rfl ?_
      refine wp_iconst dX11_run_19 rfl ?_
      refine wp_icmp_lt (tgt := 38) dX11_run_20 (by decide) (fun hc => ?_) (fun hc => ?_)
      · replace h := h.1 hc
        refine wp_bipush dX11_run_38 rfl ?_
        exact wp_iret dX11_run_40 rfl h
      · replace h := h.2 hc
        refine wp_iload_n dX11_run_23 rfl rfl ?_
        refine wp_sipush dX11_run_24 rfl ?_
        refine wp_icmp_gt (tgt := 38) dX11_run_27 (by decide) (fun hc => ?_) (fun hc => ?_)
        · replace h := h.1 hc
          refine wp_bipush dX11_run_38 rfl ?_
          exact wp_iret dX11_run_40 rfl h
        · replace h := h.2 hc
          refine wp_iload dX11_run_30 rfl ?_
          refine wp_invS (N := mX11_areOdds) [vI x4] dX11_run_32 ml_CustomValley_296 mvX11_areOdds rfl rfl rfl (Nat.le_of_ble_eq_true rfl) (Nat.le_of_ble_eq_true rfl) (by decide) (by decide) ?_
          refine pb_X11_areOdds (by trivial) ?_
          show WP mX11_run 35 [vR 12 0, vI x1, vI x2, vI x3, vI x4] [vI (b2 (2 ≤ x4 ∧ x4 ≤ 1000))] σ Q
          refine wp_if_ne (tgt := 41) dX11_run_35 (by decide) (fun hc => ?_) (fun hc => ?_)
          · replace h := h.1 (b2_ne hc)
            refine wp_aload_n dX11_run_41 rfl rfl ?_
            refine wp_getR dX11_run_42 fl_CustomValley_28 rfl rfl ?_
            refine wp_getR dX11_run_45 fl_CustomValley_103 rfl rfl ?_
            refine wp_getI dX11_run_48 fl_CustomValley_309 rfl rfl rfl ?_
            refine wp_if_ne (tgt := 57) dX11_run_51 (by decide) (fun hc => ?_) (fun hc => ?_)
            · replace h := h.1 hc
              refine wp_aload_n dX11_run_57 rfl rfl ?_
              refine wp_getR dX11_run_58 fl_CustomValley_28 rfl rfl ?_
              refine wp_invV (N := mX1_ready) [] dX11_run_61 ml_CustomValley_165 mvX1_ready rfl rfl rfl rfl rfl (Nat.le_of_ble_eq_true rfl) (Nat.le_of_ble_eq_true rfl) (by decide) (by decide) (by decide) ?_
              exact h
            · replace h := h.2 hc
              refine wp_bipush dX11_run_54 rfl ?_
              exact wp_iret dX11_run_56 rfl h
          · replace h := h.2 (b2_eq hc)
            refine wp_bipush dX11_run_38 rfl ?_
            exact wp_iret dX11_run_40 rfl h
theorem b_X11_run_64 {x1 : Int} {x2 : Int} {x3 : Int} {x4 : Int} {σ : St} {Q : Res → St → Prop} (h : WP mX10_wander 0 [vR 11 0, vR 2 0, vI x1, vI x2, vI x3, vI x4, vU, vU, vU, vU, vU, vU, vU] [] σ (CT mX11_run 80 [vR 12 0, vU, vU, vU, vU] [] Q)) : WP mX11_run 64 [vR 12 0, vI x1, vI x2, vI x3, vI x4] [] σ Q := by
  refine wp_aload_n dX11_run_64 rfl rfl ?_
  refine wp_getR dX11_run_65 fl_CustomValley_62 rfl rfl ?_
  refine wp_aload_n dX11_run_68 rfl rfl ?_
  refine wp_getR dX11_run_69 fl_CustomValley_28 rfl rfl ?_
  refine wp_iload_n dX11_run_72 rfl rfl ?_
  refine wp_iload_n dX11_run_73 rfl rfl ?_
  refine wp_iload_n dX11_run_74 rfl rfl ?_
  refine wp_iload dX11_run_75 rfl ?_
  refine wp_invV (N := mX10_wander) [vR 2 0, vI x1, vI x2, vI x3, vI x4] dX11_run_77 ml_CustomValley_312 mvX10_wander rfl rfl rfl rfl rfl (Nat.le_of_ble_eq_true rfl) (Nat.le_of_ble_eq_true rfl) (by decide) (by decide) (by decide) ?_
  exact WP.mono h (ct_drop (lle_c (Or.inl rfl) (lle_c (Or.inr rfl) (lle_c (Or.inr rfl) (lle_c (Or.inr rfl) (lle_c (Or.inr rfl) lle_n))))))
theorem b_X11_run_80  {σ : St} {Q : Res → St → Prop} (h : Q (.inl (some (vI (σ 11 0 1)))) σ) : WP mX11_run 80 [vR 12 0, vU, vU, vU, vU] [] σ Q := by
  refine wp_aload_n dX11_run_80 rfl rfl ?_
  refine wp_getR dX11_run_81 fl_CustomValley_62 rfl rfl ?_
  refine wp_getI dX11_run_84 fl_CustomValley_316 rfl rfl rfl ?_
  exact wp_iret dX11_run_87 rfl h
theorem dX11_tree_0 : decode cX11_tree 0 = .ok (.aload_n 0, 1) := by decide +kernel
theorem dX11_tree_1 : decode cX11_tree 1 = .ok (.getfield 28, 3) := by decide +kernel
theorem dX11_tree_4 : decode cX11_tree 4 = .ok (.invokevirtual 165, 3) := by decide +kernel
theorem dX11_tree_7 : decode cX11_tree 7 = .ok (.aload_n 0, 1) := by decide +kernel
theorem dX11_tree_8 : decode cX11_tree 8 = .ok (.getfield 28, 3) := by decide +kernel
theorem dX11_tree_11 : decode cX11_tree 11 = .ok (.getfield 187, 3) := by decide +kernel
theorem dX11_tree_14 : decode cX11_tree 14 = .ok (.iload_n 1, 1) := by decide +kernel
theorem dX11_tree_15 : decode cX11_tree 15 = .ok (.invokevirtual 196, 3) := by decide +kernel
theorem dX11_tree_18 : decode cX11_tree 18 = .ok (.ifCond .ne 6, 3) := by decide +kernel
theorem dX11_tree_21 : decode cX11_tree 21 = .ok (.bipush (-2), 2) := by decide +kernel
theorem dX11_tree_23 : decode cX11_tree 23 = .ok (.ireturn, 1) := by decide +kernel
theorem dX11_tree_24 : decode cX11_tree 24 = .ok (.aload_n 0, 1) := by decide +kernel
theorem dX11_tree_25 : decode cX11_tree 25 = .ok (.getfield 28, 3) := by decide +kernel
theorem dX11_tree_28 : decode cX11_tree 28 = .ok (.getfield 187, 3) := by decide +kernel
theorem dX11_tree_31 : decode cX11_tree 31 = .ok (.getfield 191, 3) := by decide +kernel
theorem dX11_tree_34 : decode cX11_tree 34 = .ok (.bipush 12, 2) := by decide +kernel
theorem dX11_tree_36 : decode cX11_tree 36 = .ok (.if_icmp .le 6, 3) := by decide +kernel
theorem dX11_tree_39 : decode cX11_tree 39 = .ok (.bipush (-3), 2) := by decide +kernel
theorem dX11_tree_41 : decode cX11_tree 41 = .ok (.ireturn, 1) := by decide +kernel
theorem dX11_tree_42 : decode cX11_tree 42 = .ok (.aload_n 0, 1) := by decide +kernel
theorem dX11_tree_43 : decode cX11_tree 43 = .ok (.getfield 28, 3) := by decide +kernel
theorem dX11_tree_46 : decode cX11_tree 46 = .ok (.aload_n 0, 1) := by decide +kernel
theorem dX11_tree_47 : decode cX11_tree 47 = .ok (.getfield 38, 3) := by decide +kernel
theorem dX11_tree_50 : decode cX11_tree 50 = .ok (.invokevirtual 240, 3) := by decide +kernel
theorem dX11_tree_53 : decode cX11_tree 53 = .ok (.aload_n 0, 1) := by decide +kernel
theorem dX11_tree_54 : decode cX11_tree 54 = .ok (.getfield 48, 3) := by decide +kernel
theorem dX11_tree_57 : decode cX11_tree 57 = .ok (.aload_n 0, 1) := by decide +kernel
theorem dX11_tree_58 : decode cX11_tree 58 = .ok (.getfield 28, 3) := by decide +kernel
theorem dX11_tree_61 : decode cX11_tree 61 = .ok (.iload_n 1, 1) := by decide +kernel
theorem dX11_tree_62 : decode cX11_tree 62 = .ok (.invokevirtual 244, 3) := by decide +kernel
theorem dX11_tree_65 : decode cX11_tree 65 = .ok (.ireturn, 1) := by decide +kernel
theorem b_X11_tree_0 {x1 : Int} {σ : St} {Q : Res → St → Prop} (h : WP mX1_ready 0 [vR 2 0] [] σ (CT mX11_tree 7 [vR 12 0, vI x1] [] Q)) : WP mX11_tree 0 [vR 12 0, vI x1] [] σ Q := by
  refine wp_aload_n dX11_tree_0 rfl rfl ?_
  refine wp_getR dX11_tree_1 fl_CustomValley_28 rfl rfl ?_
  refine wp_invV (N := mX1_ready) [] dX11_tree_4 ml_CustomValley_165 mvX1_ready rfl rfl rfl rfl rfl (Nat.le_of_ble_eq_true rfl) (Nat.le_of_ble_eq_true rfl) (by decide) (by decide) (by decide) ?_
  exact h
theorem b_X11_tree_7 {x1 : Int} {σ : St} {Q : Res → St → Prop} (h : ((0 ≤ x1 ∧ x1 < (σ 5 0 0)) → ((((σ 5 0 0) ≤ 12) → (WP mX1_measure 0 [vR 2 0, vR 6 0, vU, vU] [] σ (CT mX11_tree 53 [vR 12 0, vI x1] [] Q))) ∧ ((12 < (σ 5 0 0)) → (Q (.inl (some (vI (-3)))) σ)))) ∧ ((¬ (0 ≤ x1 ∧ x1 < (σ 5 0 0))) → (Q (.inl (some (vI (-2)))) σ))) : WP mX11_tree 7 [vR 12 0, vI x1] [] σ Q := by
  refine wp_aload_n dX11_tree_7 rfl rfl ?_
  refine wp_getR dX11_tree_8 fl_CustomValley_28 rfl rfl ?_
  refine wp_getR dX11_tree_11 fl_CustomValley_187 rfl rfl ?_
  refine wp_iload_n dX11_tree_14 rfl rfl ?_
  refine wp_invV (N := mX4_has) [vI x1] dX11_tree_15 ml_CustomValley_196 mvX4_has rfl rfl rfl rfl rfl (Nat.le_of_ble_eq_true rfl) (Nat.le_of_ble_eq_true rfl) (by decide) (by decide) (by decide) ?_
  refine pb_X4_has (by trivial) ?_
  show WP mX11_tree 18 [vR 12 0, vI x1] [vI (b2 (0 ≤ x1 ∧ x1 < (σ 5 0 0)))] σ Q
  refine wp_if_ne (tgt := 24) dX11_tree_18 (by decide) (fun hc => ?_) (fun hc => ?_)
  · replace h := h.1 (b2_ne hc)
    refine wp_aload_n dX11_tree_24 rfl rfl ?_
    refine wp_getR dX11_tree_25 fl_CustomValley_28 rfl rfl ?_
    refine wp_getR dX11_tree_28 fl_CustomValley_187 rfl rfl ?_
    refine wp_getI dX11_tree_31 fl_CustomValley_191 rfl rfl rfl ?_
    refine wp_bipush dX11_tree_34 rfl ?_
    refine wp_icmp_le (tgt := 42) dX11_tree_36 (by decide) (fun hc => ?_) (fun hc => ?_)
    · replace h := h.1 hc
      refine wp_aload_n dX11_tree_42 rfl rfl ?_
      refine wp_getR dX11_tree_43 fl_CustomValley_28 rfl rfl ?_
      refine wp_aload_n dX11_tree_46 rfl rfl ?_
      refine wp_getR dX11_tree_47 fl_CustomValley_38 rfl rfl ?_
      refine wp_invV (N := mX1_measure) [vR 6 0] dX11_tree_50 ml_CustomValley_240 mvX1_measure rfl rfl rfl rfl rfl (Nat.le_of_ble_eq_true rfl) (Nat.le_of_ble_eq_true rfl) (by decide) (by decide) (by decide) ?_
      exact h
    · replace h := h.2 hc
      refine wp_bipush dX11_tree_39 rfl ?_
      exact wp_iret dX11_tree_41 rfl h
  · replace h := h.2 (b2_eq hc)
    refine wp_bipush dX11_tree_21 rfl ?_
    exact wp_iret dX11_tree_23 rfl h
theorem b_X11_tree_53 {x1 : Int} {σ : St} {Q : Res → St → Prop} (h : WP mX8_grow 0 [vR 9 0, vR 2 0, vI x1, vU, vU, vU, vU] [] σ (CT mX11_tree 65 [vU, vU] [] Q)) : WP mX11_tree 53 [vR 12 0, vI x1] [] σ Q := by
  refine wp_aload_n dX11_tree_53 rfl rfl ?_
  refine wp_getR dX11_tree_54 fl_CustomValley_48 rfl rfl ?_
  refine wp_aload_n dX11_tree_57 rfl rfl ?_
  refine wp_getR dX11_tree_58 fl_CustomValley_28 rfl rfl ?_
  refine wp_iload_n dX11_tree_61 rfl rfl ?_
  refine wp_invV (N := mX8_grow) [vR 2 0, vI x1] dX11_tree_62 ml_CustomValley_244 mvX8_grow rfl rfl rfl rfl rfl (Nat.le_of_ble_eq_true rfl) (Nat.le_of_ble_eq_true rfl) (by decide) (by decide) (by decide) ?_
  exact WP.mono h (ct_drop (lle_c (Or.inr rfl) (lle_c (Or.inr rfl) lle_n)))
theorem b_X11_tree_65 {t0 : Int} {σ : St} {Q : Res → St → Prop} (h : Q (.inl (some (vI t0))) σ) : WP mX11_tree 65 [vU, vU] [vI t0] σ Q := by
  exact wp_iret dX11_tree_65 rfl h
theorem dX11_winners_0 : decode cX11_winners 0 = .ok (.aload_n 0, 1) := by decide +kernel
theorem dX11_winners_1 : decode cX11_winners 1 = .ok (.getfield 28, 3) := by decide +kernel
theorem dX11_winners_4 : decode cX11_winners 4 = .ok (.invokevirtual 165, 3) := by decide +kernel
theorem dX11_winners_7 : decode cX11_winners 7 = .ok (.aload_n 0, 1) := by decide +kernel
theorem dX11_winners_8 : decode cX11_winners 8 = .ok (.getfield 28, 3) := by decide +kernel
theorem dX11_winners_11 : decode cX11_winners 11 = .ok (.getfield 187, 3) := by decide +kernel
theorem dX11_winners_14 : decode cX11_winners 14 = .ok (.getfield 191, 3) := by decide +kernel
theorem dX11_winners_17 : decode cX11_winners 17 = .ok (.bipush 12, 2) := by decide +kernel
theorem dX11_winners_19 : decode cX11_winners 19 = .ok (.if_icmp .le 6, 3) := by decide +kernel
theorem dX11_winners_22 : decode cX11_winners 22 = .ok (.bipush (-3), 2) := by decide +kernel
theorem dX11_winners_24 : decode cX11_winners 24 = .ok (.ireturn, 1) := by decide +kernel
theorem dX11_winners_25 : decode cX11_winners 25 = .ok (.aload_n 0, 1) := by decide +kernel
theorem dX11_winners_26 : decode cX11_winners 26 = .ok (.getfield 251, 3) := by decide +kernel
theorem dX11_winners_29 : decode cX11_winners 29 = .ok (.bipush (-9), 2) := by decide +kernel
theorem dX11_winners_31 : decode cX11_winners 31 = .ok (.if_icmp .ne 15, 3) := by decide +kernel
theorem dX11_winners_34 : decode cX11_winners 34 = .ok (.aload_n 0, 1) := by decide +kernel
theorem dX11_winners_35 : decode cX11_winners 35 = .ok (.aload_n 0, 1) := by decide +kernel
theorem dX11_winners_36 : decode cX11_winners 36 = .ok (.aload_n 0, 1) := by decide +kernel
theorem dX11_winners_37 : decode cX11_winners 37 = .ok (.getfield 28, 3) := by decide +kernel
theorem dX11_winners_40 : decode cX11_winners 40 = .ok (.invokevirtual 254, 3) := by decide +kernel
theorem dX11_winners_43 : decode cX11_winners 43 = .ok (.putfield 251, 3) := by decide +kernel
theorem dX11_winners_46 : decode cX11_winners 46 = .ok (.aload_n 0, 1) := by decide +kernel
theorem dX11_winners_47 : decode cX11_winners 47 = .ok (.getfield 251, 3) := by decide +kernel
theorem dX11_winners_50 : decode cX11_winners 50 = .ok (.ireturn, 1) := by decide +kernel
theorem b_X11_winners_0  {σ : St} {Q : Res → St → Prop} (h : WP mX1_ready 0 [vR 2 0] [] σ (CT mX11_winners 7 [vR 12 0] [] Q)) : WP mX11_winners 0 [vR 12 0] [] σ Q := by
  refine wp_aload_n dX11_winners_0 rfl rfl ?_
  refine wp_getR dX11_winners_1 fl_CustomValley_28 rfl rfl ?_
  refine wp_invV (N := mX1_ready) [] dX11_winners_4 ml_CustomValley_165 mvX1_ready rfl rfl rfl rfl rfl (Nat.le_of_ble_eq_true rfl) (Nat.le_of_ble_eq_true rfl) (by decide) (by decide) (by decide) ?_
  exact h
theorem b_X11_winners_7  {σ : St} {Q : Res → St → Prop} (h : (((σ 5 0 0) ≤ 12) → ((((σ 12 0 16) ≠ (-9)) → (Q (.inl (some (vI (σ 12 0 16)))) σ)) ∧ (((σ 12 0 16) = (-9)) → (WP mX11_winnersOf 0 [vR 12 0, vR 2 0, vU, vU, vU, vU] [] σ (CT mX11_winners 43 [vR 12 0] [vR 12 0] Q))))) ∧ ((12 < (σ 5 0 0)) → (Q (.inl (some (vI (-3)))) σ))) : WP mX11_winners 7 [vR 12 0] [] σ Q := by
  refine wp_aload_n dX11_winners_7 rfl rfl ?_
  refine wp_getR dX11_winners_8 fl_CustomValley_28 rfl rfl ?_
  refine wp_getR dX11_winners_11 fl_CustomValley_187 rfl rfl ?_
  refine wp_getI dX11_winners_14 fl_CustomValley_191 rfl rfl rfl ?_
  refine wp_bipush dX11_winners_17 rfl ?_
  refine wp_icmp_le (tgt := 25) dX11_winners_19 (by decide) (fun hc => ?_) (fun hc => ?_)
  · replace h := h.1 hc
    refine wp_aload_n dX11_winners_25 rfl rfl ?_
    refine wp_getI dX11_winners_26 fl_CustomValley_251 rfl rfl rfl ?_
    refine wp_bipush dX11_winners_29 rfl ?_
    refine wp_icmp_ne (tgt := 46) dX11_winners_31 (by decide) (fun hc => ?_) (fun hc => ?_)
    · replace h := h.1 hc
      refine wp_aload_n dX11_winners_46 rfl rfl ?_
      refine wp_getI dX11_winners_47 fl_CustomValley_251 rfl rfl rfl ?_
      exact wp_iret dX11_winners_50 rfl h
    · replace h := h.2 hc
      refine wp_aload_n dX11_winners_34 rfl rfl ?_
      refine wp_aload_n dX11_winners_35 rfl rfl ?_
      refine wp_aload_n dX11_winners_36 rfl rfl ?_
      refine wp_getR dX11_winners_37 fl_CustomValley_28 rfl rfl ?_
      refine wp_invV (N := mX11_winnersOf) [vR 2 0] dX11_winners_40 ml_CustomValley_254 mvX11_winnersOf rfl rfl rfl rfl rfl (Nat.le_of_ble_eq_true rfl) (Nat.le_of_ble_eq_true rfl) (by decide) (by decide) (by decide) ?_
      exact h
  · replace h := h.2 hc
    refine wp_bipush dX11_winners_22 rfl ?_
    exact wp_iret dX11_winners_24 rfl h
theorem b_X11_winners_43 {t0 : Int} {σ : St} {Q : Res → St → Prop} (h : Q (.inl (some (vI t0))) (up σ 12 0 16 t0)) : WP mX11_winners 43 [vR 12 0] [vI t0, vR 12 0] σ Q := by
  refine wp_putI dX11_winners_43 fp_CustomValley_251 rfl rfl rfl ?_
  refine wp_aload_n dX11_winners_46 rfl rfl ?_
  refine wp_getI dX11_winners_47 fl_CustomValley_251 rfl rfl rfl ?_
  rw [show (up σ 12 0 16 t0) 12 0 16 = t0 from by simp [up]]
  exact wp_iret dX11_winners_50 rfl h
theorem dX11_winsAlone_0 : decode cX11_winsAlone 0 = .ok (.aload_n 0, 1) := by decide +kernel
theorem dX11_winsAlone_1 : decode cX11_winsAlone 1 = .ok (.getfield 32, 3) := by decide +kernel
theorem dX11_winsAlone_4 : decode cX11_winsAlone 4 = .ok (.getfield 103, 3) := by decide +kernel
theorem dX11_winsAlone_7 : decode cX11_winsAlone 7 = .ok (.astore_n 2, 1) := by decide +kernel
theorem dX11_winsAlone_8 : decode cX11_winsAlone 8 = .ok (.aload_n 2, 1) := by decide +kernel
theorem dX11_winsAlone_9 : decode cX11_winsAlone 9 = .ok (.aload_n 2, 1) := by decide +kernel
theorem dX11_winsAlone_10 : decode cX11_winsAlone 10 = .ok (.getfield 271, 3) := by decide +kernel
theorem dX11_winsAlone_13 : decode cX11_winsAlone 13 = .ok (.iconst 0, 1) := by decide +kernel
theorem dX11_winsAlone_14 : decode cX11_winsAlone 14 = .ok (.iaload, 1) := by decide +kernel
theorem dX11_winsAlone_15 : decode cX11_winsAlone 15 = .ok (.aload_n 0, 1) := by decide +kernel
theorem dX11_winsAlone_16 : decode cX11_winsAlone 16 = .ok (.getfield 28, 3) := by decide +kernel
theorem dX11_winsAlone_19 : decode cX11_winsAlone 19 = .ok (.getfield 103, 3) := by decide +kernel
theorem dX11_winsAlone_22 : decode cX11_winsAlone 22 = .ok (.getfield 134, 3) := by decide +kernel
theorem dX11_winsAlone_25 : decode cX11_winsAlone 25 = .ok (.iload_n 1, 1) := by decide +kernel
theorem dX11_winsAlone_26 : decode cX11_winsAlone 26 = .ok (.invokevirtual 274, 3) := by decide +kernel
theorem dX11_winsAlone_29 : decode cX11_winsAlone 29 = .ok (.istore_n 3, 1) := by decide +kernel
theorem dX11_winsAlone_30 : decode cX11_winsAlone 30 = .ok (.iconst 0, 1) := by decide +kernel
theorem dX11_winsAlone_31 : decode cX11_winsAlone 31 = .ok (.istore 4, 2) := by decide +kernel
theorem dX11_winsAlone_33 : decode cX11_winsAlone 33 = .ok (.iload 4, 2) := by decide +kernel
theorem dX11_winsAlone_35 : decode cX11_winsAlone 35 = .ok (.aload_n 2, 1) := by decide +kernel
theorem dX11_winsAlone_36 : decode cX11_winsAlone 36 = .ok (.getfield 128, 3) := by decide +kernel
theorem dX11_winsAlone_39 : decode cX11_winsAlone 39 = .ok (.if_icmp .ge 39, 3) := by decide +kernel
theorem dX11_winsAlone_42 : decode cX11_winsAlone 42 = .ok (.aload_n 2, 1) := by decide +kernel
theorem dX11_winsAlone_43 : decode cX11_winsAlone 43 = .ok (.iload 4, 2) := by decide +kernel
theorem dX11_winsAlone_45 : decode cX11_winsAlone 45 = .ok (.invokevirtual 180, 3) := by decide +kernel
theorem dX11_winsAlone_48 : decode cX11_winsAlone 48 = .ok (.ifCond .eq 24, 3) := by decide +kernel
theorem dX11_winsAlone_51 : decode cX11_winsAlone 51 = .ok (.aload_n 0, 1) := by decide +kernel
theorem dX11_winsAlone_52 : decode cX11_winsAlone 52 = .ok (.getfield 32, 3) := by decide +kernel
theorem dX11_winsAlone_55 : decode cX11_winsAlone 55 = .ok (.getfield 168, 3) := by decide +kernel
theorem dX11_winsAlone_58 : decode cX11_winsAlone 58 = .ok (.iload_n 3, 1) := by decide +kernel
theorem dX11_winsAlone_59 : decode cX11_winsAlone 59 = .ok (.iload 4, 2) := by decide +kernel
theorem dX11_winsAlone_61 : decode cX11_winsAlone 61 = .ok (.invokevirtual 172, 3) := by decide +kernel
theorem dX11_winsAlone_64 : decode cX11_winsAlone 64 = .ok (.iconst 1, 1) := by decide +kernel
theorem dX11_winsAlone_65 : decode cX11_winsAlone 65 = .ok (.iload_n 1, 1) := by decide +kernel
theorem dX11_winsAlone_66 : decode cX11_winsAlone 66 = .ok (.ishl, 1) := by decide +kernel
theorem dX11_winsAlone_67 : decode cX11_winsAlone 67 = .ok (.if_icmp .eq 5, 3) := by decide +kernel
theorem dX11_winsAlone_70 : decode cX11_winsAlone 70 = .ok (.iconst 0, 1) := by decide +kernel
theorem dX11_winsAlone_71 : decode cX11_winsAlone 71 = .ok (.ireturn, 1) := by decide +kernel
theorem dX11_winsAlone_72 : decode cX11_winsAlone 72 = .ok (.iinc 4 1, 3) := by decide +kernel
theorem dX11_winsAlone_75 : decode cX11_winsAlone 75 = .ok (.goto (-42), 3) := by decide +kernel
theorem dX11_winsAlone_78 : decode cX11_winsAlone 78 = .ok (.aload_n 0, 1) := by decide +kernel
theorem dX11_winsAlone_79 : decode cX11_winsAlone 79 = .ok (.getfield 32, 3) := by decide +kernel
theorem dX11_winsAlone_82 : decode cX11_winsAlone 82 = .ok (.invokevirtual 165, 3) := by decide +kernel
theorem dX11_winsAlone_85 : decode cX11_winsAlone 85 = .ok (.aload_n 0, 1) := by decide +kernel
theorem dX11_winsAlone_86 : decode cX11_winsAlone 86 = .ok (.getfield 32, 3) := by decide +kernel
theorem dX11_winsAlone_89 : decode cX11_winsAlone 89 = .ok (.getfield 187, 3) := by decide +kernel
theorem dX11_winsAlone_92 : decode cX11_winsAlone 92 = .ok (.getfield 215, 3) := by decide +kernel
theorem dX11_winsAlone_95 : decode cX11_winsAlone 95 = .ok (.iload_n 3, 1) := by decide +kernel
theorem dX11_winsAlone_96 : decode cX11_winsAlone 96 = .ok (.iaload, 1) := by decide +kernel
theorem dX11_winsAlone_97 : decode cX11_winsAlone 97 = .ok (.istore 4, 2) := by decide +kernel
theorem dX11_winsAlone_99 : decode cX11_winsAlone 99 = .ok (.iload 4, 2) := by decide +kernel
theorem dX11_winsAlone_101 : decode cX11_winsAlone 101 = .ok (.ifCond .lt 18, 3) := by decide +kernel
theorem dX11_winsAlone_104 : decode cX11_winsAlone 104 = .ok (.aload_n 0, 1) := by decide +kernel
theorem dX11_winsAlone_105 : decode cX11_winsAlone 105 = .ok (.getfield 32, 3) := by decide +kernel
theorem dX11_winsAlone_108 : decode cX11_winsAlone 108 = .ok (.getfield 187, 3) := by decide +kernel
theorem dX11_winsAlone_111 : decode cX11_winsAlone 111 = .ok (.getfield 191, 3) := by decide +kernel
theorem dX11_winsAlone_114 : decode cX11_winsAlone 114 = .ok (.bipush 12, 2) := by decide +kernel
theorem dX11_winsAlone_116 : decode cX11_winsAlone 116 = .ok (.if_icmp .le 5, 3) := by decide +kernel
theorem dX11_winsAlone_119 : decode cX11_winsAlone 119 = .ok (.iconst 0, 1) := by decide +kernel
theorem dX11_winsAlone_120 : decode cX11_winsAlone 120 = .ok (.ireturn, 1) := by decide +kernel
theorem dX11_winsAlone_121 : decode cX11_winsAlone 121 = .ok (.aload_n 0, 1) := by decide +kernel
theorem dX11_winsAlone_122 : decode cX11_winsAlone 122 = .ok (.getfield 32, 3) := by decide +kernel
theorem dX11_winsAlone_125 : decode cX11_winsAlone 125 = .ok (.getfield 187, 3) := by decide +kernel
theorem dX11_winsAlone_128 : decode cX11_winsAlone 128 = .ok (.getfield 191, 3) := by decide +kernel
theorem dX11_winsAlone_131 : decode cX11_winsAlone 131 = .ok (.iconst 1, 1) := by decide +kernel
theorem dX11_winsAlone_132 : decode cX11_winsAlone 132 = .ok (.if_icmp .eq 18, 3) := by decide +kernel
theorem dX11_winsAlone_135 : decode cX11_winsAlone 135 = .ok (.aload_n 0, 1) := by decide +kernel
theorem dX11_winsAlone_136 : decode cX11_winsAlone 136 = .ok (.aload_n 0, 1) := by decide +kernel
theorem dX11_winsAlone_137 : decode cX11_winsAlone 137 = .ok (.getfield 32, 3) := by decide +kernel
theorem dX11_winsAlone_140 : decode cX11_winsAlone 140 = .ok (.invokevirtual 254, 3) := by decide +kernel
theorem dX11_winsAlone_143 : decode cX11_winsAlone 143 = .ok (.iconst 1, 1) := by decide +kernel
theorem dX11_winsAlone_144 : decode cX11_winsAlone 144 = .ok (.iload 4, 2) := by decide +kernel
theorem dX11_winsAlone_146 : decode cX11_winsAlone 146 = .ok (.ishl, 1) := by decide +kernel
theorem dX11_winsAlone_147 : decode cX11_winsAlone 147 = .ok (.if_icmp .ne 7, 3) := by decide +kernel
theorem dX11_winsAlone_150 : decode cX11_winsAlone 150 = .ok (.iconst 1, 1) := by decide +kernel
theorem dX11_winsAlone_151 : decode cX11_winsAlone 151 = .ok (.goto 4, 3) := by decide +kernel
theorem dX11_winsAlone_154 : decode cX11_winsAlone 154 = .ok (.iconst 0, 1) := by decide +kernel
theorem dX11_winsAlone_155 : decode cX11_winsAlone 155 = .ok (.ireturn, 1) := by decide +kernel
theorem b_X11_winsAlone_0 {x1 : Int} {σ : St} {Q : Res → St → Prop} (h : WP mX9_allWith 0 [vR 10 1, vI (σ 61 1 0), vI (σ 10 0 9), vI x1, vU, vU] [] σ (CT mX11_winsAlone 29 [vR 12 0, vI x1, vR 10 1, vU, vU] [] Q)) : WP mX11_winsAlone 0 [vR 12 0, vI x1, vU, vU, vU] [] σ Q := by
  refine wp_aload_n dX11_winsAlone_0 rfl rfl ?_
  refine wp_getR dX11_winsAlone_1 fl_CustomValley_32 rfl rfl ?_
  refine wp_getR dX11_winsAlone_4 fl_CustomValley_103 rfl rfl ?_
  refine wp_astore_n dX11_winsAlone_7 rfl (by decide) rfl rfl ?_
  refine wp_aload_n dX11_winsAlone_8 rfl rfl ?_
  refine wp_aload_n dX11_winsAlone_9 rfl rfl ?_
  refine wp_getR dX11_winsAlone_10 fl_CustomValley_271 rfl rfl ?_
  refine wp_iconst dX11_winsAlone_13 rfl ?_
  refine wp_iaload dX11_winsAlone_14 rfl rfl (by decide) (by decide) ?_
  refine wp_aload_n dX11_winsAlone_15 rfl rfl ?_
  refine wp_getR dX11_winsAlone_16 fl_CustomValley_28 rfl rfl ?_
  refine wp_getR dX11_winsAlone_19 fl_CustomValley_103 rfl rfl ?_
  refine wp_getI dX11_winsAlone_22 fl_CustomValley_134 rfl rfl rfl ?_
  refine wp_iload_n dX11_winsAlone_25 rfl rfl ?_
  refine wp_invV (N := mX9_allWith) [vI (σ 61 1 0), vI (σ 10 0 9), vI x1] dX11_winsAlone_26 ml_CustomValley_274 mvX9_allWith rfl rfl rfl rfl rfl (Nat.le_of_ble_eq_true rfl) (Nat.le_of_ble_eq_true rfl) (by decide) (by decide) (by decide) ?_
  exact h
theorem b_X11_winsAlone_29 {x1 : Int} {t0 : Int} {σ : St} {Q : Res → St → Prop} (h : WP mX11_winsAlone 33 [vR 12 0, vI x1, vR 10 1, vI t0, vI 0] [] σ Q) : WP mX11_winsAlone 29 [vR 12 0, vI x1, vR 10 1, vU, vU] [vI t0] σ Q := by
  refine wp_istore_n dX11_winsAlone_29 rfl (by decide) rfl rfl ?_
  refine wp_iconst dX11_winsAlone_30 rfl ?_
  refine wp_istore dX11_winsAlone_31 (by decide) rfl rfl ?_
  exact h
theorem b_X11_winsAlone_33 {x1 : Int} {x3 : Int} {x4 : Int} {σ : St} {Q : Res → St → Prop} (h : (((σ 10 1 0) ≤ x4) → (WP mX1_ready 0 [vR 2 1] [] σ (CT mX11_winsAlone 85 [vR 12 0, vU, vU, vI x3, vU] [] Q))) ∧ ((x4 < (σ 10 1 0)) → (((¬ (band (shr (σ 10 1 9) x4) 1 ≠ 0)) → ((in32 (x4 + 1)) ∧ (WP mX11_winsAlone 33 [vR 12 0, vI x1, vR 10 1, vI x3, vI (x4 + 1)] [] σ Q))) ∧ ((band (shr (σ 10 1 9) x4) 1 ≠ 0) → ((in32 (x3 * 10) ∧ in32 ((x3 * 10) + x4) ∧ 0 ≤ (x3 * 10) + x4 ∧ ((x3 * 10) + x4) < 10240) ∧ ((((band (σ 23 1 (((x3 * 10) + x4).toNat)) 15) = (shl 1 x1)) → ((in32 (x4 + 1)) ∧ (WP mX11_winsAlone 33 [vR 12 0, vI x1, vR 10 1, vI x3, vI (x4 + 1)] [] σ Q))) ∧ (((band (σ 23 1 (((x3 * 10) + x4).toNat)) 15) ≠ (shl 1 x1)) → (Q (.inl (some (vI 0))) σ)))))))) : WP mX11_winsAlone 33 [vR 12 0, vI x1, vR 10 1, vI x3, vI x4] [] σ Q := by
  refine wp_iload dX11_winsAlone_33 rfl ?_
  refine wp_aload_n dX11_winsAlone_35 rfl rfl ?_
  refine wp_getI dX11_winsAlone_36 fl_CustomValley_128 rfl rfl rfl ?_
  refine wp_icmp_ge (tgt := 78) dX11_winsAlone_39 (by decide) (fun hc => ?_) (fun hc => ?_)
  · replace h := h.1 hc
    refine wp_aload_n dX11_winsAlone_78 rfl rfl ?_
    refine wp_getR dX11_winsAlone_79 fl_CustomValley_32 rfl rfl ?_
    refine wp_invV (N := mX1_ready) [] dX11_winsAlone_82 ml_CustomValley_165 mvX1_ready rfl rfl rfl rfl rfl (Nat.le_of_ble_eq_true rfl) (Nat.le_of_ble_eq_true rfl) (by decide) (by decide) (by decide) ?_
    exact WP.mono h (ct_drop (lle_c (Or.inl rfl) (lle_c (Or.inr rfl) (lle_c (Or.inr rfl) (lle_c (Or.inl rfl) (lle_c (Or.inr rfl) lle_n))))))
  · replace h := h.2 hc
    refine wp_aload_n dX11_winsAlone_42 rfl rfl ?_
    refine wp_iload dX11_winsAlone_43 rfl ?_
    refine wp_invV (N := mX9_isFree) [vI x4] dX11_winsAlone_45 ml_CustomValley_180 mvX9_isFree rfl rfl rfl rfl rfl (Nat.le_of_ble_eq_true rfl) (Nat.le_of_ble_eq_true rfl) (by decide) (by decide) (by decide) ?_
    refine pb_X9_isFree (by trivial) ?_
    show WP mX11_winsAlone 48 [vR 12 0, vI x1, vR 10 1, vI x3, vI x4] [vI (b2 (band (shr (σ 10 1 9) x4) 1 ≠ 0))] σ Q
    refine wp_if_eq (tgt := 72) dX11_winsAlone_48 (by decide) (fun hc => ?_) (fun hc => ?_)
    · replace h := h.1 (b2_eq hc)
      have s1 := h.1
      replace h := h.2
      refine wp_iinc dX11_winsAlone_72 rfl (by decide) rfl rfl ?_ (h1 := s1.1) (h2 := s1.2)
      refine wp_goto (tgt := 33) dX11_winsAlone_75 (by decide) ?_
      exact h
    · replace h := h.2 (b2_ne hc)
      refine wp_aload_n dX11_winsAlone_51 rfl rfl ?_
      refine wp_getR dX11_winsAlone_52 fl_CustomValley_32 rfl rfl ?_
      refine wp_getR dX11_winsAlone_55 fl_CustomValley_168 rfl rfl ?_
      refine wp_iload_n dX11_winsAlone_58 rfl rfl ?_
      refine wp_iload dX11_winsAlone_59 rfl ?_
      have s3 := h.1
      replace h := h.2
      refine wp_invV (N := mX3_bits) [vI x3, vI x4] dX11_winsAlone_61 ml_CustomValley_172 mvX3_bits rfl rfl rfl rfl rfl (Nat.le_of_ble_eq_true rfl) (Nat.le_of_ble_eq_true rfl) (by decide) (by decide) (by decide) ?_
      refine pb_X3_bits s3 ?_
      show WP mX11_winsAlone 64 [vR 12 0, vI x1, vR 10 1, vI x3, vI x4] [vI (band (σ 23 1 (((x3 * 10) + x4).toNat)) 15)] σ Q
      refine wp_iconst dX11_winsAlone_64 rfl ?_
      refine wp_iload_n dX11_winsAlone_65 rfl rfl ?_
      refine wp_ishl dX11_winsAlone_66 ?_
      refine wp_icmp_eq (tgt := 72) dX11_winsAlone_67 (by decide) (fun hc => ?_) (fun hc => ?_)
      · replace h := h.1 hc
        have s2 := h.1
        replace h := h.2
        refine wp_iinc dX11_winsAlone_72 rfl (by decide) rfl rfl ?_ (h1 := s2.1) (h2 := s2.2)
        refine wp_goto (tgt := 33) dX11_winsAlone_75 (by decide) ?_
        exact h
      · replace h := h.2 hc
        refine wp_iconst dX11_winsAlone_70 rfl ?_
        exact wp_zret dX11_winsAlone_71 rfl h (by decide)
theorem b_X11_winsAlone_85 {x3 : Int} {σ : St} {Q : Res → St → Prop} (h : (0 ≤ x3 ∧ x3 < 1024) ∧ ((((σ 27 1 x3.toNat) < 0) → (Q (.inl (some (vI 0))) σ)) ∧ ((0 ≤ (σ 27 1 x3.toNat)) → ((((σ 5 1 0) ≤ 12) → ((((σ 5 1 0) = 1) → (Q (.inl (some (vI 1))) σ)) ∧ (((σ 5 1 0) ≠ 1) → (WP mX11_winnersOf 0 [vR 12 0, vR 2 1, vU, vU, vU, vU] [] σ (CT mX11_winsAlone 143 [vU, vU, vU, vU, vI (σ 27 1 x3.toNat)] [] Q))))) ∧ ((12 < (σ 5 1 0)) → (Q (.inl (some (vI 0))) σ)))))) : WP mX11_winsAlone 85 [vR 12 0, vU, vU, vI x3, vU] [] σ Q := by
  refine wp_aload_n dX11_winsAlone_85 rfl rfl ?_
  refine wp_getR dX11_winsAlone_86 fl_CustomValley_32 rfl rfl ?_
  refine wp_getR dX11_winsAlone_89 fl_CustomValley_187 rfl rfl ?_
  refine wp_getR dX11_winsAlone_92 fl_CustomValley_215 rfl rfl ?_
  refine wp_iload_n dX11_winsAlone_95 rfl rfl ?_
  have s1 := h.1
  replace h := h.2
  refine wp_iaload dX11_winsAlone_96 rfl rfl s1.1 s1.2 ?_
  refine wp_istore dX11_winsAlone_97 (by decide) rfl rfl ?_
  refine wp_iload dX11_winsAlone_99 rfl ?_
  refine wp_if_lt (tgt := 119) dX11_winsAlone_101 (by decide) (fun hc => ?_) (fun hc => ?_)
  · replace h := h.1 hc
    refine wp_iconst dX11_winsAlone_119 rfl ?_
    exact wp_zret dX11_winsAlone_120 rfl h (by decide)
  · replace h := h.2 hc
    refine wp_aload_n dX11_winsAlone_104 rfl rfl ?_
    refine wp_getR dX11_winsAlone_105 fl_CustomValley_32 rfl rfl ?_
    refine wp_getR dX11_winsAlone_108 fl_CustomValley_187 rfl rfl ?_
    refine wp_getI dX11_winsAlone_111 fl_CustomValley_191 rfl rfl rfl ?_
    refine wp_bipush dX11_winsAlone_114 rfl ?_
    refine wp_icmp_le (tgt := 121) dX11_winsAlone_116 (by decide) (fun hc => ?_) (fun hc => ?_)
    · replace h := h.1 hc
      refine wp_aload_n dX11_winsAlone_121 rfl rfl ?_
      refine wp_getR dX11_winsAlone_122 fl_CustomValley_32 rfl rfl ?_
      refine wp_getR dX11_winsAlone_125 fl_CustomValley_187 rfl rfl ?_
      refine wp_getI dX11_winsAlone_128 fl_CustomValley_191 rfl rfl rfl ?_
      refine wp_iconst dX11_winsAlone_131 rfl ?_
      refine wp_icmp_eq (tgt := 150) dX11_winsAlone_132 (by decide) (fun hc => ?_) (fun hc => ?_)
      · replace h := h.1 hc
        refine wp_iconst dX11_winsAlone_150 rfl ?_
        refine wp_goto (tgt := 155) dX11_winsAlone_151 (by decide) ?_
        exact wp_zret dX11_winsAlone_155 rfl h (by decide)
      · replace h := h.2 hc
        refine wp_aload_n dX11_winsAlone_135 rfl rfl ?_
        refine wp_aload_n dX11_winsAlone_136 rfl rfl ?_
        refine wp_getR dX11_winsAlone_137 fl_CustomValley_32 rfl rfl ?_
        refine wp_invV (N := mX11_winnersOf) [vR 2 1] dX11_winsAlone_140 ml_CustomValley_254 mvX11_winnersOf rfl rfl rfl rfl rfl (Nat.le_of_ble_eq_true rfl) (Nat.le_of_ble_eq_true rfl) (by decide) (by decide) (by decide) ?_
        exact WP.mono h (ct_drop (lle_c (Or.inr rfl) (lle_c (Or.inl rfl) (lle_c (Or.inl rfl) (lle_c (Or.inr rfl) (lle_c (Or.inl rfl) lle_n))))))
    · replace h := h.2 hc
      refine wp_iconst dX11_winsAlone_119 rfl ?_
      exact wp_zret dX11_winsAlone_120 rfl h (by decide)
theorem b_X11_winsAlone_143 {x4 : Int} {t0 : Int} {σ : St} {Q : Res → St → Prop} (h : ((t0 ≠ (shl 1 x4)) → (Q (.inl (some (vI 0))) σ)) ∧ ((t0 = (shl 1 x4)) → (Q (.inl (some (vI 1))) σ))) : WP mX11_winsAlone 143 [vU, vU, vU, vU, vI x4] [vI t0] σ Q := by
  refine wp_iconst dX11_winsAlone_143 rfl ?_
  refine wp_iload dX11_winsAlone_144 rfl ?_
  refine wp_ishl dX11_winsAlone_146 ?_
  refine wp_icmp_ne (tgt := 154) dX11_winsAlone_147 (by decide) (fun hc => ?_) (fun hc => ?_)
  · replace h := h.1 hc
    refine wp_iconst dX11_winsAlone_154 rfl ?_
    exact wp_zret dX11_winsAlone_155 rfl h (by decide)
  · replace h := h.2 hc
    refine wp_iconst dX11_winsAlone_150 rfl ?_
    refine wp_goto (tgt := 155) dX11_winsAlone_151 (by decide) ?_
    exact wp_zret dX11_winsAlone_155 rfl h (by decide)
theorem dX11_bound_0 : decode cX11_bound 0 = .ok (.aload_n 0, 1) := by decide +kernel
theorem dX11_bound_1 : decode cX11_bound 1 = .ok (.getfield 28, 3) := by decide +kernel
theorem dX11_bound_4 : decode cX11_bound 4 = .ok (.getfield 103, 3) := by decide +kernel
theorem dX11_bound_7 : decode cX11_bound 7 = .ok (.iload_n 1, 1) := by decide +kernel
theorem dX11_bound_8 : decode cX11_bound 8 = .ok (.invokevirtual 177, 3) := by decide +kernel
theorem dX11_bound_11 : decode cX11_bound 11 = .ok (.ifCond .ne 6, 3) := by decide +kernel
theorem dX11_bound_14 : decode cX11_bound 14 = .ok (.bipush (-2), 2) := by decide +kernel
theorem dX11_bound_16 : decode cX11_bound 16 = .ok (.ireturn, 1) := by decide +kernel
theorem dX11_bound_17 : decode cX11_bound 17 = .ok (.aload_n 0, 1) := by decide +kernel
theorem dX11_bound_18 : decode cX11_bound 18 = .ok (.getfield 28, 3) := by decide +kernel
theorem dX11_bound_21 : decode cX11_bound 21 = .ok (.getfield 103, 3) := by decide +kernel
theorem dX11_bound_24 : decode cX11_bound 24 = .ok (.getfield 128, 3) := by decide +kernel
theorem dX11_bound_27 : decode cX11_bound 27 = .ok (.bipush 6, 2) := by decide +kernel
theorem dX11_bound_29 : decode cX11_bound 29 = .ok (.if_icmp .le 6, 3) := by decide +kernel
theorem dX11_bound_32 : decode cX11_bound 32 = .ok (.bipush (-3), 2) := by decide +kernel
theorem dX11_bound_34 : decode cX11_bound 34 = .ok (.ireturn, 1) := by decide +kernel
theorem dX11_bound_35 : decode cX11_bound 35 = .ok (.aload_n 0, 1) := by decide +kernel
theorem dX11_bound_36 : decode cX11_bound 36 = .ok (.getfield 80, 3) := by decide +kernel
theorem dX11_bound_39 : decode cX11_bound 39 = .ok (.iload_n 1, 1) := by decide +kernel
theorem dX11_bound_40 : decode cX11_bound 40 = .ok (.iaload, 1) := by decide +kernel
theorem dX11_bound_41 : decode cX11_bound 41 = .ok (.bipush (-9), 2) := by decide +kernel
theorem dX11_bound_43 : decode cX11_bound 43 = .ok (.if_icmp .eq 10, 3) := by decide +kernel
theorem dX11_bound_46 : decode cX11_bound 46 = .ok (.aload_n 0, 1) := by decide +kernel
theorem dX11_bound_47 : decode cX11_bound 47 = .ok (.getfield 80, 3) := by decide +kernel
theorem dX11_bound_50 : decode cX11_bound 50 = .ok (.iload_n 1, 1) := by decide +kernel
theorem dX11_bound_51 : decode cX11_bound 51 = .ok (.iaload, 1) := by decide +kernel
theorem dX11_bound_52 : decode cX11_bound 52 = .ok (.ireturn, 1) := by decide +kernel
theorem dX11_bound_53 : decode cX11_bound 53 = .ok (.iconst (-1), 1) := by decide +kernel
theorem dX11_bound_54 : decode cX11_bound 54 = .ok (.istore_n 2, 1) := by decide +kernel
theorem dX11_bound_55 : decode cX11_bound 55 = .ok (.iconst 0, 1) := by decide +kernel
theorem dX11_bound_56 : decode cX11_bound 56 = .ok (.istore_n 3, 1) := by decide +kernel
theorem dX11_bound_57 : decode cX11_bound 57 = .ok (.iload_n 3, 1) := by decide +kernel
theorem dX11_bound_58 : decode cX11_bound 58 = .ok (.iconst 1, 1) := by decide +kernel
theorem dX11_bound_59 : decode cX11_bound 59 = .ok (.aload_n 0, 1) := by decide +kernel
theorem dX11_bound_60 : decode cX11_bound 60 = .ok (.getfield 28, 3) := by decide +kernel
theorem dX11_bound_63 : decode cX11_bound 63 = .ok (.getfield 103, 3) := by decide +kernel
theorem dX11_bound_66 : decode cX11_bound 66 = .ok (.getfield 128, 3) := by decide +kernel
theorem dX11_bound_69 : decode cX11_bound 69 = .ok (.ishl, 1) := by decide +kernel
theorem dX11_bound_70 : decode cX11_bound 70 = .ok (.if_icmp .ge 74, 3) := by decide +kernel
theorem dX11_bound_73 : decode cX11_bound 73 = .ok (.iload_n 2, 1) := by decide +kernel
theorem dX11_bound_74 : decode cX11_bound 74 = .ok (.iconst (-1), 1) := by decide +kernel
theorem dX11_bound_75 : decode cX11_bound 75 = .ok (.if_icmp .eq 14, 3) := by decide +kernel
theorem dX11_bound_78 : decode cX11_bound 78 = .ok (.iload_n 3, 1) := by decide +kernel
theorem dX11_bound_79 : decode cX11_bound 79 = .ok (.invokestatic 277, 3) := by decide +kernel
theorem dX11_bound_82 : decode cX11_bound 82 = .ok (.iload_n 2, 1) := by decide +kernel
theorem dX11_bound_83 : decode cX11_bound 83 = .ok (.invokestatic 277, 3) := by decide +kernel
theorem dX11_bound_86 : decode cX11_bound 86 = .ok (.if_icmp .ge 7, 3) := by decide +kernel
theorem dX11_bound_89 : decode cX11_bound 89 = .ok (.iconst 1, 1) := by decide +kernel
theorem dX11_bound_90 : decode cX11_bound 90 = .ok (.goto 4, 3) := by decide +kernel
theorem dX11_bound_93 : decode cX11_bound 93 = .ok (.iconst 0, 1) := by decide +kernel
theorem dX11_bound_94 : decode cX11_bound 94 = .ok (.istore 4, 2) := by decide +kernel
theorem dX11_bound_96 : decode cX11_bound 96 = .ok (.iload 4, 2) := by decide +kernel
theorem dX11_bound_98 : decode cX11_bound 98 = .ok (.ifCond .eq 40, 3) := by decide +kernel
theorem dX11_bound_101 : decode cX11_bound 101 = .ok (.iload_n 3, 1) := by decide +kernel
theorem dX11_bound_102 : decode cX11_bound 102 = .ok (.aload_n 0, 1) := by decide +kernel
theorem dX11_bound_103 : decode cX11_bound 103 = .ok (.getfield 28, 3) := by decide +kernel
theorem dX11_bound_106 : decode cX11_bound 106 = .ok (.getfield 103, 3) := by decide +kernel
theorem dX11_bound_109 : decode cX11_bound 109 = .ok (.getfield 134, 3) := by decide +kernel
theorem dX11_bound_112 : decode cX11_bound 112 = .ok (.iconst (-1), 1) := by decide +kernel
theorem dX11_bound_113 : decode cX11_bound 113 = .ok (.ixor, 1) := by decide +kernel
theorem dX11_bound_114 : decode cX11_bound 114 = .ok (.iand, 1) := by decide +kernel
theorem dX11_bound_115 : decode cX11_bound 115 = .ok (.ifCond .ne 23, 3) := by decide +kernel
theorem dX11_bound_118 : decode cX11_bound 118 = .ok (.aload_n 0, 1) := by decide +kernel
theorem dX11_bound_119 : decode cX11_bound 119 = .ok (.iload_n 3, 1) := by decide +kernel
theorem dX11_bound_120 : decode cX11_bound 120 = .ok (.iload_n 1, 1) := by decide +kernel
theorem dX11_bound_121 : decode cX11_bound 121 = .ok (.invokevirtual 285, 3) := by decide +kernel
theorem dX11_bound_124 : decode cX11_bound 124 = .ok (.aload_n 0, 1) := by decide +kernel
theorem dX11_bound_125 : decode cX11_bound 125 = .ok (.iload_n 1, 1) := by decide +kernel
theorem dX11_bound_126 : decode cX11_bound 126 = .ok (.invokevirtual 289, 3) := by decide +kernel
theorem dX11_bound_129 : decode cX11_bound 129 = .ok (.ifCond .eq 7, 3) := by decide +kernel
theorem dX11_bound_132 : decode cX11_bound 132 = .ok (.iload_n 3, 1) := by decide +kernel
theorem dX11_bound_133 : decode cX11_bound 133 = .ok (.goto 4, 3) := by decide +kernel
theorem dX11_bound_136 : decode cX11_bound 136 = .ok (.iload_n 2, 1) := by decide +kernel
theorem dX11_bound_137 : decode cX11_bound 137 = .ok (.istore_n 2, 1) := by decide +kernel
theorem dX11_bound_138 : decode cX11_bound 138 = .ok (.iinc 3 1, 3) := by decide +kernel
theorem dX11_bound_141 : decode cX11_bound 141 = .ok (.goto (-84), 3) := by decide +kernel
theorem dX11_bound_144 : decode cX11_bound 144 = .ok (.aload_n 0, 1) := by decide +kernel
theorem dX11_bound_145 : decode cX11_bound 145 = .ok (.getfield 80, 3) := by decide +kernel
theorem dX11_bound_148 : decode cX11_bound 148 = .ok (.iload_n 1, 1) := by decide +kernel
theorem dX11_bound_149 : decode cX11_bound 149 = .ok (.iload_n 2, 1) := by decide +kernel
theorem dX11_bound_150 : decode cX11_bound 150 = .ok (.iastore, 1) := by decide +kernel
theorem dX11_bound_151 : decode cX11_bound 151 = .ok (.iload_n 2, 1) := by decide +kernel
theorem dX11_bound_152 : decode cX11_bound 152 = .ok (.ireturn, 1) := by decide +kernel
theorem b_X11_bound_0 {x1 : Int} {σ : St} {Q : Res → St → Prop} (h : ((0 ≤ x1 ∧ x1 < (σ 10 0 1)) → ((((σ 10 0 0) ≤ 6) → ((0 ≤ x1 ∧ x1 < 4) ∧ ((((σ 64 0 x1.toNat) = (-9)) → (WP mX11_bound 57 [vR 12 0, vI x1, vI (-1), vI 0, vU] [] σ Q)) ∧ (((σ 64 0 x1.toNat) ≠ (-9)) → ((0 ≤ x1 ∧ x1 < 4) ∧ (Q (.inl (some (vI (σ 64 0 x1.toNat)))) σ)))))) ∧ ((6 < (σ 10 0 0)) → (Q (.inl (some (vI (-3)))) σ)))) ∧ ((¬ (0 ≤ x1 ∧ x1 < (σ 10 0 1))) → (Q (.inl (some (vI (-2)))) σ))) : WP mX11_bound 0 [vR 12 0, vI x1, vU, vU, vU] [] σ Q := by
  refine wp_aload_n dX11_bound_0 rfl rfl ?_
  refine wp_getR dX11_bound_1 fl_CustomValley_28 rfl rfl ?_
  refine wp_getR dX11_bound_4 fl_CustomValley_103 rfl rfl ?_
  refine wp_iload_n dX11_bound_7 rfl rfl ?_
  refine wp_invV (N := mX9_isHabit) [vI x1] dX11_bound_8 ml_CustomValley_177 mvX9_isHabit rfl rfl rfl rfl rfl (Nat.le_of_ble_eq_true rfl) (Nat.le_of_ble_eq_true rfl) (by decide) (by decide) (by decide) ?_
  refine pb_X9_isHabit (by trivial) ?_
  show WP mX11_bound 11 [vR 12 0, vI x1, vU, vU, vU] [vI (b2 (0 ≤ x1 ∧ x1 < (σ 10 0 1)))] σ Q
  refine wp_if_ne (tgt := 17) dX11_bound_11 (by decide) (fun hc => ?_) (fun hc => ?_)
  · replace h := h.1 (b2_ne hc)
    refine wp_aload_n dX11_bound_17 rfl rfl ?_
    refine wp_getR dX11_bound_18 fl_CustomValley_28 rfl rfl ?_
    refine wp_getR dX11_bound_21 fl_CustomValley_103 rfl rfl ?_
    refine wp_getI dX11_bound_24 fl_CustomValley_128 rfl rfl rfl ?_
    refine wp_bipush dX11_bound_27 rfl ?_
    refine wp_icmp_le (tgt := 35) dX11_bound_29 (by decide) (fun hc => ?_) (fun hc => ?_)
    · replace h := h.1 hc
      refine wp_aload_n dX11_bound_35 rfl rfl ?_
      refine wp_getR dX11_bound_36 fl_CustomValley_80 rfl rfl ?_
      refine wp_iload_n dX11_bound_39 rfl rfl ?_
      have s2 := h.1
      replace h := h.2
      refine wp_iaload dX11_bound_40 rfl rfl s2.1 s2.2 ?_
      refine wp_bipush dX11_bound_41 rfl ?_
      refine wp_icmp_eq (tgt := 53) dX11_bound_43 (by decide) (fun hc => ?_) (fun hc => ?_)
      · replace h := h.1 hc
        refine wp_iconst dX11_bound_53 rfl ?_
        refine wp_istore_n dX11_bound_54 rfl (by decide) rfl rfl ?_
        refine wp_iconst dX11_bound_55 rfl ?_
        refine wp_istore_n dX11_bound_56 rfl (by decide) rfl rfl ?_
        exact h
      · replace h := h.2 hc
        refine wp_aload_n dX11_bound_46 rfl rfl ?_
        refine wp_getR dX11_bound_47 fl_CustomValley_80 rfl rfl ?_
        refine wp_iload_n dX11_bound_50 rfl rfl ?_
        have s1 := h.1
        replace h := h.2
        refine wp_iaload dX11_bound_51 rfl rfl s1.1 s1.2 ?_
        exact wp_iret dX11_bound_52 rfl h
    · replace h := h.2 hc
      refine wp_bipush dX11_bound_32 rfl ?_
      exact wp_iret dX11_bound_34 rfl h
  · replace h := h.2 (b2_eq hc)
    refine wp_bipush dX11_bound_14 rfl ?_
    exact wp_iret dX11_bound_16 rfl h
theorem b_X11_bound_57 {x1 : Int} {x2 : Int} {x3 : Int} {σ : St} {Q : Res → St → Prop} (h : (((shl 1 (σ 10 0 0)) ≤ x3) → ((0 ≤ x1 ∧ x1 < 4) ∧ (Q (.inl (some (vI x2))) (up σ 64 0 x1.toNat x2)))) ∧ ((x3 < (shl 1 (σ 10 0 0))) → (((x2 = (-1)) → (WP mX11_bound 89 [vR 12 0, vI x1, vI x2, vI x3, vU] [] σ Q)) ∧ ((x2 ≠ (-1)) → ((0 ≤ x3 ∧ x3 < 1024) ∧ ((0 ≤ x2 ∧ x2 < 1024) ∧ ((((bcnt x2) ≤ (bcnt x3)) → (WP mX11_bound 94 [vR 12 0, vI x1, vI x2, vI x3, vU] [vI 0] σ Q)) ∧ (((bcnt x3) < (bcnt x2)) → (WP mX11_bound 89 [vR 12 0, vI x1, vI x2, vI x3, vU] [] σ Q))))))))) : WP mX11_bound 57 [vR 12 0, vI x1, vI x2, vI x3, vU] [] σ Q := by
  refine wp_iload_n dX11_bound_57 rfl rfl ?_
  refine wp_iconst dX11_bound_58 rfl ?_
  refine wp_aload_n dX11_bound_59 rfl rfl ?_
  refine wp_getR dX11_bound_60 fl_CustomValley_28 rfl rfl ?_
  refine wp_getR dX11_bound_63 fl_CustomValley_103 rfl rfl ?_
  refine wp_getI dX11_bound_66 fl_CustomValley_128 rfl rfl rfl ?_
  refine wp_ishl dX11_bound_69 ?_
  refine wp_icmp_ge (tgt := 144) dX11_bound_70 (by decide) (fun hc => ?_) (fun hc => ?_)
  · replace h := h.1 hc
    refine wp_aload_n dX11_bound_144 rfl rfl ?_
    refine wp_getR dX11_bound_145 fl_CustomValley_80 rfl rfl ?_
    refine wp_iload_n dX11_bound_148 rfl rfl ?_
    refine wp_iload_n dX11_bound_149 rfl rfl ?_
    have s1 := h.1
    replace h := h.2
    refine wp_iastore dX11_bound_150 rfl rfl s1.1 s1.2 ?_
    refine wp_iload_n dX11_bound_151 rfl rfl ?_
    exact wp_iret dX11_bound_152 rfl h
  · replace h := h.2 hc
    refine wp_iload_n dX11_bound_73 rfl rfl ?_
    refine wp_iconst dX11_bound_74 rfl ?_
    refine wp_icmp_eq (tgt := 89) dX11_bound_75 (by decide) (fun hc => ?_) (fun hc => ?_)
    · replace h := h.1 hc
      exact h
    · replace h := h.2 hc
      refine wp_iload_n dX11_bound_78 rfl rfl ?_
      have s3 := h.1
      replace h := h.2
      refine wp_invS (N := mJ6_bitCount_0f7a4) [vI x3] dX11_bound_79 ml_CustomValley_277 mvJ6_bitCount_0f7a4 rfl rfl rfl (Nat.le_of_ble_eq_true rfl) (Nat.le_of_ble_eq_true rfl) (by decide) (by decide) ?_
      refine pb_J6_bitCount_0f7a4 s3 ?_
      show WP mX11_bound 82 [vR 12 0, vI x1, vI x2, vI x3, vU] [vI (bcnt x3)] σ Q
      refine wp_iload_n dX11_bound_82 rfl rfl ?_
      have s2 := h.1
      replace h := h.2
      refine wp_invS (N := mJ6_bitCount_0f7a4) [vI x2] dX11_bound_83 ml_CustomValley_277 mvJ6_bitCount_0f7a4 rfl rfl rfl (Nat.le_of_ble_eq_true rfl) (Nat.le_of_ble_eq_true rfl) (by decide) (by decide) ?_
      refine pb_J6_bitCount_0f7a4 s2 ?_
      show WP mX11_bound 86 [vR 12 0, vI x1, vI x2, vI x3, vU] [vI (bcnt x2), vI (bcnt x3)] σ Q
      refine wp_icmp_ge (tgt := 93) dX11_bound_86 (by decide) (fun hc => ?_) (fun hc => ?_)
      · replace h := h.1 hc
        refine wp_iconst dX11_bound_93 rfl ?_
        exact h
      · replace h := h.2 hc
        exact h
theorem b_X11_bound_89 {x1 : Int} {x2 : Int} {x3 : Int} {σ : St} {Q : Res → St → Prop} (h : WP mX11_bound 94 [vR 12 0, vI x1, vI x2, vI x3, vU] [vI 1] σ Q) : WP mX11_bound 89 [vR 12 0, vI x1, vI x2, vI x3, vU] [] σ Q := by
  refine wp_iconst dX11_bound_89 rfl ?_
  refine wp_goto (tgt := 94) dX11_bound_90 (by decide) ?_
  exact h
theorem b_X11_bound_94 {x1 : Int} {x2 : Int} {x3 : Int} {t0 : Int} {σ : St} {Q : Res → St → Prop} (h : ((t0 = 0) → ((in32 (x3 + 1)) ∧ (WP mX11_bound 57 [vR 12 0, vI x1, vI x2, vI (x3 + 1), vU] [] σ Q))) ∧ ((t0 ≠ 0) → ((((band x3 (bxor (σ 10 0 9) (-1))) ≠ 0) → ((in32 (x3 + 1)) ∧ (WP mX11_bound 57 [vR 12 0, vI x1, vI x2, vI (x3 + 1), vU] [] σ Q))) ∧ (((band x3 (bxor (σ 10 0 9) (-1))) = 0) → (WP mX11_bindInTrial 0 [vR 12 0, vI x3, vI x1, vU, vU] [] σ (CT mX11_bound 124 [vR 12 0, vI x1, vI x2, vI x3, vU] [] Q)))))) : WP mX11_bound 94 [vR 12 0, vI x1, vI x2, vI x3, vU] [vI t0] σ Q := by
  refine wp_istore dX11_bound_94 (by decide) rfl rfl ?_
  refine wp_iload dX11_bound_96 rfl ?_
  refine wp_if_eq (tgt := 138) dX11_bound_98 (by decide) (fun hc => ?_) (fun hc => ?_)
  · replace h := h.1 hc
    have s1 := h.1
    replace h := h.2
    refine wp_iinc dX11_bound_138 rfl (by decide) rfl rfl ?_ (h1 := s1.1) (h2 := s1.2)
    refine wp_goto (tgt := 57) dX11_bound_141 (by decide) ?_
    exact wp_drop (als' := [vR 12 0, vI x1, vI x2, vI (x3 + 1), vU]) (lle_c (Or.inl rfl) (lle_c (Or.inl rfl) (lle_c (Or.inl rfl) (lle_c (Or.inl rfl) (lle_c (Or.inr rfl) lle_n))))) h
  · replace h := h.2 hc
    refine wp_iload_n dX11_bound_101 rfl rfl ?_
    refine wp_aload_n dX11_bound_102 rfl rfl ?_
    refine wp_getR dX11_bound_103 fl_CustomValley_28 rfl rfl ?_
    refine wp_getR dX11_bound_106 fl_CustomValley_103 rfl rfl ?_
    refine wp_getI dX11_bound_109 fl_CustomValley_134 rfl rfl rfl ?_
    refine wp_iconst dX11_bound_112 rfl ?_
    refine wp_ixor dX11_bound_113 ?_
    refine wp_iand dX11_bound_114 ?_
    refine wp_if_ne (tgt := 138) dX11_bound_115 (by decide) (fun hc => ?_) (fun hc => ?_)
    · replace h := h.1 hc
      have s2 := h.1
      replace h := h.2
      refine wp_iinc dX11_bound_138 rfl (by decide) rfl rfl ?_ (h1 := s2.1) (h2 := s2.2)
      refine wp_goto (tgt := 57) dX11_bound_141 (by decide) ?_
      exact wp_drop (als' := [vR 12 0, vI x1, vI x2, vI (x3 + 1), vU]) (lle_c (Or.inl rfl) (lle_c (Or.inl rfl) (lle_c (Or.inl rfl) (lle_c (Or.inl rfl) (lle_c (Or.inr rfl) lle_n))))) h
    · replace h := h.2 hc
      refine wp_aload_n dX11_bound_118 rfl rfl ?_
      refine wp_iload_n dX11_bound_119 rfl rfl ?_
      refine wp_iload_n dX11_bound_120 rfl rfl ?_
      refine wp_invV (N := mX11_bindInTrial) [vI x3, vI x1] dX11_bound_121 ml_CustomValley_285 mvX11_bindInTrial rfl rfl rfl rfl rfl (Nat.le_of_ble_eq_true rfl) (Nat.le_of_ble_eq_true rfl) (by decide) (by decide) (by decide) ?_
      exact WP.mono h (ct_drop (lle_c (Or.inl rfl) (lle_c (Or.inl rfl) (lle_c (Or.inl rfl) (lle_c (Or.inl rfl) (lle_c (Or.inr rfl) lle_n))))))
theorem b_X11_bound_124 {x1 : Int} {x2 : Int} {x3 : Int} {σ : St} {Q : Res → St → Prop} (h : WP mX11_winsAlone 0 [vR 12 0, vI x1, vU, vU, vU] [] σ (CT mX11_bound 129 [vR 12 0, vI x1, vI x2, vI x3, vU] [] Q)) : WP mX11_bound 124 [vR 12 0, vI x1, vI x2, vI x3, vU] [] σ Q := by
  refine wp_aload_n dX11_bound_124 rfl rfl ?_
  refine wp_iload_n dX11_bound_125 rfl rfl ?_
  refine wp_invV (N := mX11_winsAlone) [vI x1] dX11_bound_126 ml_CustomValley_289 mvX11_winsAlone rfl rfl rfl rfl rfl (Nat.le_of_ble_eq_true rfl) (Nat.le_of_ble_eq_true rfl) (by decide) (by decide) (by decide) ?_
  exact h
theorem b_X11_bound_129 {x1 : Int} {x2 : Int} {x3 : Int} {t0 : Int} {σ : St} {Q : Res → St → Prop} (h : ((t0 = 0) → ((in32 (x3 + 1)) ∧ (WP mX11_bound 57 [vR 12 0, vI x1, vI x2, vI (x3 + 1), vU] [] σ Q))) ∧ ((t0 ≠ 0) → ((in32 (x3 + 1)) ∧ (WP mX11_bound 57 [vR 12 0, vI x1, vI x3, vI (x3 + 1), vU] [] σ Q)))) : WP mX11_bound 129 [vR 12 0, vI x1, vI x2, vI x3, vU] [vI t0] σ Q := by
  refine wp_if_eq (tgt := 136) dX11_bound_129 (by decide) (fun hc => ?_) (fun hc => ?_)
  · replace h := h.1 hc
    refine wp_iload_n dX11_bound_136 rfl rfl ?_
    refine wp_istore_n dX11_bound_137 rfl (by decide) rfl rfl ?_
    have s1 := h.1
    replace h := h.2
    refine wp_iinc dX11_bound_138 rfl (by decide) rfl rfl ?_ (h1 := s1.1) (h2 := s1.2)
    refine wp_goto (tgt := 57) dX11_bound_141 (by decide) ?_
    exact h
  · replace h := h.2 hc
    refine wp_iload_n dX11_bound_132 rfl rfl ?_
    refine wp_goto (tgt := 137) dX11_bound_133 (by decide) ?_
    refine wp_istore_n dX11_bound_137 rfl (by decide) rfl rfl ?_
    have s2 := h.1
    replace h := h.2
    refine wp_iinc dX11_bound_138 rfl (by decide) rfl rfl ?_ (h1 := s2.1) (h2 := s2.2)
    refine wp_goto (tgt := 57) dX11_bound_141 (by decide) ?_
    exact h
theorem dX11_gift_0 : decode cX11_gift 0 = .ok (.aload_n 0, 1) := by decide +kernel
theorem dX11_gift_1 : decode cX11_gift 1 = .ok (.getfield 28, 3) := by decide +kernel
theorem dX11_gift_4 : decode cX11_gift 4 = .ok (.getfield 103, 3) := by decide +kernel
theorem dX11_gift_7 : decode cX11_gift 7 = .ok (.iload_n 1, 1) := by decide +kernel
theorem dX11_gift_8 : decode cX11_gift 8 = .ok (.invokevirtual 177, 3) := by decide +kernel
theorem dX11_gift_11 : decode cX11_gift 11 = .ok (.ifCond .ne 6, 3) := by decide +kernel
theorem dX11_gift_14 : decode cX11_gift 14 = .ok (.bipush (-2), 2) := by decide +kernel
theorem dX11_gift_16 : decode cX11_gift 16 = .ok (.ireturn, 1) := by decide +kernel
theorem dX11_gift_17 : decode cX11_gift 17 = .ok (.aload_n 0, 1) := by decide +kernel
theorem dX11_gift_18 : decode cX11_gift 18 = .ok (.getfield 28, 3) := by decide +kernel
theorem dX11_gift_21 : decode cX11_gift 21 = .ok (.getfield 103, 3) := by decide +kernel
theorem dX11_gift_24 : decode cX11_gift 24 = .ok (.getfield 128, 3) := by decide +kernel
theorem dX11_gift_27 : decode cX11_gift 27 = .ok (.bipush 6, 2) := by decide +kernel
theorem dX11_gift_29 : decode cX11_gift 29 = .ok (.if_icmp .le 6, 3) := by decide +kernel
theorem dX11_gift_32 : decode cX11_gift 32 = .ok (.bipush (-3), 2) := by decide +kernel
theorem dX11_gift_34 : decode cX11_gift 34 = .ok (.ireturn, 1) := by decide +kernel
theorem dX11_gift_35 : decode cX11_gift 35 = .ok (.aload_n 0, 1) := by decide +kernel
theorem dX11_gift_36 : decode cX11_gift 36 = .ok (.getfield 83, 3) := by decide +kernel
theorem dX11_gift_39 : decode cX11_gift 39 = .ok (.iload_n 1, 1) := by decide +kernel
theorem dX11_gift_40 : decode cX11_gift 40 = .ok (.iaload, 1) := by decide +kernel
theorem dX11_gift_41 : decode cX11_gift 41 = .ok (.bipush (-9), 2) := by decide +kernel
theorem dX11_gift_43 : decode cX11_gift 43 = .ok (.if_icmp .eq 10, 3) := by decide +kernel
theorem dX11_gift_46 : decode cX11_gift 46 = .ok (.aload_n 0, 1) := by decide +kernel
theorem dX11_gift_47 : decode cX11_gift 47 = .ok (.getfield 83, 3) := by decide +kernel
theorem dX11_gift_50 : decode cX11_gift 50 = .ok (.iload_n 1, 1) := by decide +kernel
theorem dX11_gift_51 : decode cX11_gift 51 = .ok (.iaload, 1) := by decide +kernel
theorem dX11_gift_52 : decode cX11_gift 52 = .ok (.ireturn, 1) := by decide +kernel
theorem dX11_gift_53 : decode cX11_gift 53 = .ok (.iconst (-1), 1) := by decide +kernel
theorem dX11_gift_54 : decode cX11_gift 54 = .ok (.istore_n 2, 1) := by decide +kernel
theorem dX11_gift_55 : decode cX11_gift 55 = .ok (.iconst 0, 1) := by decide +kernel
theorem dX11_gift_56 : decode cX11_gift 56 = .ok (.istore_n 3, 1) := by decide +kernel
theorem dX11_gift_57 : decode cX11_gift 57 = .ok (.iload_n 3, 1) := by decide +kernel
theorem dX11_gift_58 : decode cX11_gift 58 = .ok (.bipush 99, 2) := by decide +kernel
theorem dX11_gift_60 : decode cX11_gift 60 = .ok (.if_icmp .gt 41, 3) := by decide +kernel
theorem dX11_gift_63 : decode cX11_gift 63 = .ok (.iload_n 2, 1) := by decide +kernel
theorem dX11_gift_64 : decode cX11_gift 64 = .ok (.iconst (-1), 1) := by decide +kernel
theorem dX11_gift_65 : decode cX11_gift 65 = .ok (.if_icmp .ne 36, 3) := by decide +kernel
theorem dX11_gift_68 : decode cX11_gift 68 = .ok (.aload_n 0, 1) := by decide +kernel
theorem dX11_gift_69 : decode cX11_gift 69 = .ok (.iload_n 1, 1) := by decide +kernel
theorem dX11_gift_70 : decode cX11_gift 70 = .ok (.iload_n 3, 1) := by decide +kernel
theorem dX11_gift_71 : decode cX11_gift 71 = .ok (.invokevirtual 292, 3) := by decide +kernel
theorem dX11_gift_74 : decode cX11_gift 74 = .ok (.istore 4, 2) := by decide +kernel
theorem dX11_gift_76 : decode cX11_gift 76 = .ok (.iload_n 3, 1) := by decide +kernel
theorem dX11_gift_77 : decode cX11_gift 77 = .ok (.ifCond .eq 8, 3) := by decide +kernel
theorem dX11_gift_80 : decode cX11_gift 80 = .ok (.iload 4, 2) := by decide +kernel
theorem dX11_gift_82 : decode cX11_gift 82 = .ok (.ifCond .eq 13, 3) := by decide +kernel
theorem dX11_gift_85 : decode cX11_gift 85 = .ok (.aload_n 0, 1) := by decide +kernel
theorem dX11_gift_86 : decode cX11_gift 86 = .ok (.iload_n 1, 1) := by decide +kernel
theorem dX11_gift_87 : decode cX11_gift 87 = .ok (.invokevirtual 289, 3) := by decide +kernel
theorem dX11_gift_90 : decode cX11_gift 90 = .ok (.ifCond .eq 5, 3) := by decide +kernel
theorem dX11_gift_93 : decode cX11_gift 93 = .ok (.iload_n 3, 1) := by decide +kernel
theorem dX11_gift_94 : decode cX11_gift 94 = .ok (.istore_n 2, 1) := by decide +kernel
theorem dX11_gift_95 : decode cX11_gift 95 = .ok (.iinc 3 1, 3) := by decide +kernel
theorem dX11_gift_98 : decode cX11_gift 98 = .ok (.goto (-41), 3) := by decide +kernel
theorem dX11_gift_101 : decode cX11_gift 101 = .ok (.aload_n 0, 1) := by decide +kernel
theorem dX11_gift_102 : decode cX11_gift 102 = .ok (.getfield 83, 3) := by decide +kernel
theorem dX11_gift_105 : decode cX11_gift 105 = .ok (.iload_n 1, 1) := by decide +kernel
theorem dX11_gift_106 : decode cX11_gift 106 = .ok (.iload_n 2, 1) := by decide +kernel
theorem dX11_gift_107 : decode cX11_gift 107 = .ok (.iastore, 1) := by decide +kernel
theorem dX11_gift_108 : decode cX11_gift 108 = .ok (.iload_n 2, 1) := by decide +kernel
theorem dX11_gift_109 : decode cX11_gift 109 = .ok (.ireturn, 1) := by decide +kernel
theorem b_X11_gift_0 {x1 : Int} {σ : St} {Q : Res → St → Prop} (h : ((0 ≤ x1 ∧ x1 < (σ 10 0 1)) → ((((σ 10 0 0) ≤ 6) → ((0 ≤ x1 ∧ x1 < 4) ∧ ((((σ 65 0 x1.toNat) = (-9)) → (WP mX11_gift 57 [vR 12 0, vI x1, vI (-1), vI 0, vU] [] σ Q)) ∧ (((σ 65 0 x1.toNat) ≠ (-9)) → ((0 ≤ x1 ∧ x1 < 4) ∧ (Q (.inl (some (vI (σ 65 0 x1.toNat)))) σ)))))) ∧ ((6 < (σ 10 0 0)) → (Q (.inl (some (vI (-3)))) σ)))) ∧ ((¬ (0 ≤ x1 ∧ x1 < (σ 10 0 1))) → (Q (.inl (some (vI (-2)))) σ))) : WP mX11_gift 0 [vR 12 0, vI x1, vU, vU, vU] [] σ Q := by
  refine wp_aload_n dX11_gift_0 rfl rfl ?_
  refine wp_getR dX11_gift_1 fl_CustomValley_28 rfl rfl ?_
  refine wp_getR dX11_gift_4 fl_CustomValley_103 rfl rfl ?_
  refine wp_iload_n dX11_gift_7 rfl rfl ?_
  refine wp_invV (N := mX9_isHabit) [vI x1] dX11_gift_8 ml_CustomValley_177 mvX9_isHabit rfl rfl rfl rfl rfl (Nat.le_of_ble_eq_true rfl) (Nat.le_of_ble_eq_true rfl) (by decide) (by decide) (by decide) ?_
  refine pb_X9_isHabit (by trivial) ?_
  show WP mX11_gift 11 [vR 12 0, vI x1, vU, vU, vU] [vI (b2 (0 ≤ x1 ∧ x1 < (σ 10 0 1)))] σ Q
  refine wp_if_ne (tgt := 17) dX11_gift_11 (by decide) (fun hc => ?_) (fun hc => ?_)
  · replace h := h.1 (b2_ne hc)
    refine wp_aload_n dX11_gift_17 rfl rfl ?_
    refine wp_getR dX11_gift_18 fl_CustomValley_28 rfl rfl ?_
    refine wp_getR dX11_gift_21 fl_CustomValley_103 rfl rfl ?_
    refine wp_getI dX11_gift_24 fl_CustomValley_128 rfl rfl rfl ?_
    refine wp_bipush dX11_gift_27 rfl ?_
    refine wp_icmp_le (tgt := 35) dX11_gift_29 (by decide) (fun hc => ?_) (fun hc => ?_)
    · replace h := h.1 hc
      refine wp_aload_n dX11_gift_35 rfl rfl ?_
      refine wp_getR dX11_gift_36 fl_CustomValley_83 rfl rfl ?_
      refine wp_iload_n dX11_gift_39 rfl rfl ?_
      have s2 := h.1
      replace h := h.2
      refine wp_iaload dX11_gift_40 rfl rfl s2.1 s2.2 ?_
      refine wp_bipush dX11_gift_41 rfl ?_
      refine wp_icmp_eq (tgt := 53) dX11_gift_43 (by decide) (fun hc => ?_) (fun hc => ?_)
      · replace h := h.1 hc
        refine wp_iconst dX11_gift_53 rfl ?_
        refine wp_istore_n dX11_gift_54 rfl (by decide) rfl rfl ?_
        refine wp_iconst dX11_gift_55 rfl ?_
        refine wp_istore_n dX11_gift_56 rfl (by decide) rfl rfl ?_
        exact h
      · replace h := h.2 hc
        refine wp_aload_n dX11_gift_46 rfl rfl ?_
        refine wp_getR dX11_gift_47 fl_CustomValley_83 rfl rfl ?_
        refine wp_iload_n dX11_gift_50 rfl rfl ?_
        have s1 := h.1
        replace h := h.2
        refine wp_iaload dX11_gift_51 rfl rfl s1.1 s1.2 ?_
        exact wp_iret dX11_gift_52 rfl h
    · replace h := h.2 hc
      refine wp_bipush dX11_gift_32 rfl ?_
      exact wp_iret dX11_gift_34 rfl h
  · replace h := h.2 (b2_eq hc)
    refine wp_bipush dX11_gift_14 rfl ?_
    exact wp_iret dX11_gift_16 rfl h
theorem b_X11_gift_57 {x1 : Int} {x2 : Int} {x3 : Int} {σ : St} {Q : Res → St → Prop} (h : ((99 < x3) → ((0 ≤ x1 ∧ x1 < 4) ∧ (Q (.inl (some (vI x2))) (up σ 65 0 x1.toNat x2)))) ∧ ((x3 ≤ 99) → (((x2 ≠ (-1)) → ((0 ≤ x1 ∧ x1 < 4) ∧ (Q (.inl (some (vI x2))) (up σ 65 0 x1.toNat x2)))) ∧ ((x2 = (-1)) → (WP mX11_giveInTrial 0 [vR 12 0, vI x1, vI x3, vU, vU] [] σ (CT mX11_gift 74 [vR 12 0, vI x1, vI x2, vI x3, vU] [] Q)))))) : WP mX11_gift 57 [vR 12 0, vI x1, vI x2, vI x3, vU] [] σ Q := by
  refine wp_iload_n dX11_gift_57 rfl rfl ?_
  refine wp_bipush dX11_gift_58 rfl ?_
  refine wp_icmp_gt (tgt := 101) dX11_gift_60 (by decide) (fun hc => ?_) (fun hc => ?_)
  · replace h := h.1 hc
    refine wp_aload_n dX11_gift_101 rfl rfl ?_
    refine wp_getR dX11_gift_102 fl_CustomValley_83 rfl rfl ?_
    refine wp_iload_n dX11_gift_105 rfl rfl ?_
    refine wp_iload_n dX11_gift_106 rfl rfl ?_
    have s1 := h.1
    replace h := h.2
    refine wp_iastore dX11_gift_107 rfl rfl s1.1 s1.2 ?_
    refine wp_iload_n dX11_gift_108 rfl rfl ?_
    exact wp_iret dX11_gift_109 rfl h
  · replace h := h.2 hc
    refine wp_iload_n dX11_gift_63 rfl rfl ?_
    refine wp_iconst dX11_gift_64 rfl ?_
    refine wp_icmp_ne (tgt := 101) dX11_gift_65 (by decide) (fun hc => ?_) (fun hc => ?_)
    · replace h := h.1 hc
      refine wp_aload_n dX11_gift_101 rfl rfl ?_
      refine wp_getR dX11_gift_102 fl_CustomValley_83 rfl rfl ?_
      refine wp_iload_n dX11_gift_105 rfl rfl ?_
      refine wp_iload_n dX11_gift_106 rfl rfl ?_
      have s2 := h.1
      replace h := h.2
      refine wp_iastore dX11_gift_107 rfl rfl s2.1 s2.2 ?_
      refine wp_iload_n dX11_gift_108 rfl rfl ?_
      exact wp_iret dX11_gift_109 rfl h
    · replace h := h.2 hc
      refine wp_aload_n dX11_gift_68 rfl rfl ?_
      refine wp_iload_n dX11_gift_69 rfl rfl ?_
      refine wp_iload_n dX11_gift_70 rfl rfl ?_
      refine wp_invV (N := mX11_giveInTrial) [vI x1, vI x3] dX11_gift_71 ml_CustomValley_292 mvX11_giveInTrial rfl rfl rfl rfl rfl (Nat.le_of_ble_eq_true rfl) (Nat.le_of_ble_eq_true rfl) (by decide) (by decide) (by decide) ?_
      exact h
theorem b_X11_gift_74 {x1 : Int} {x2 : Int} {x3 : Int} {t0 : Int} {σ : St} {Q : Res → St → Prop} (h : ((x3 = 0) → (WP mX11_winsAlone 0 [vR 12 0, vI x1, vU, vU, vU] [] σ (CT mX11_gift 90 [vR 12 0, vI x1, vI x2, vI x3, vU] [] Q))) ∧ ((x3 ≠ 0) → (((t0 = 0) → ((in32 (x3 + 1)) ∧ (WP mX11_gift 57 [vR 12 0, vI x1, vI x2, vI (x3 + 1), vU] [] σ Q))) ∧ ((t0 ≠ 0) → (WP mX11_winsAlone 0 [vR 12 0, vI x1, vU, vU, vU] [] σ (CT mX11_gift 90 [vR 12 0, vI x1, vI x2, vI x3, vU] [] Q)))))) : WP mX11_gift 74 [vR 12 0, vI x1, vI x2, vI x3, vU] [vI t0] σ Q := by
  refine wp_istore dX11_gift_74 (by decide) rfl rfl ?_
  refine wp_iload_n dX11_gift_76 rfl rfl ?_
  refine wp_if_eq (tgt := 85) dX11_gift_77 (by decide) (fun hc => ?_) (fun hc => ?_)
  · replace h := h.1 hc
    refine wp_aload_n dX11_gift_85 rfl rfl ?_
    refine wp_iload_n dX11_gift_86 rfl rfl ?_
    refine wp_invV (N := mX11_winsAlone) [vI x1] dX11_gift_87 ml_CustomValley_289 mvX11_winsAlone rfl rfl rfl rfl rfl (Nat.le_of_ble_eq_true rfl) (Nat.le_of_ble_eq_true rfl) (by decide) (by decide) (by decide) ?_
    exact WP.mono h (ct_drop (lle_c (Or.inl rfl) (lle_c (Or.inl rfl) (lle_c (Or.inl rfl) (lle_c (Or.inl rfl) (lle_c (Or.inr rfl) lle_n))))))
  · replace h := h.2 hc
    refine wp_iload dX11_gift_80 rfl ?_
    refine wp_if_eq (tgt := 95) dX11_gift_82 (by decide) (fun hc => ?_) (fun hc => ?_)
    · replace h := h.1 hc
      have s1 := h.1
      replace h := h.2
      refine wp_iinc dX11_gift_95 rfl (by decide) rfl rfl ?_ (h1 := s1.1) (h2 := s1.2)
      refine wp_goto (tgt := 57) dX11_gift_98 (by decide) ?_
      exact wp_drop (als' := [vR 12 0, vI x1, vI x2, vI (x3 + 1), vU]) (lle_c (Or.inl rfl) (lle_c (Or.inl rfl) (lle_c (Or.inl rfl) (lle_c (Or.inl rfl) (lle_c (Or.inr rfl) lle_n))))) h
    · replace h := h.2 hc
      refine wp_aload_n dX11_gift_85 rfl rfl ?_
      refine wp_iload_n dX11_gift_86 rfl rfl ?_
      refine wp_invV (N := mX11_winsAlone) [vI x1] dX11_gift_87 ml_CustomValley_289 mvX11_winsAlone rfl rfl rfl rfl rfl (Nat.le_of_ble_eq_true rfl) (Nat.le_of_ble_eq_true rfl) (by decide) (by decide) (by decide) ?_
      exact WP.mono h (ct_drop (lle_c (Or.inl rfl) (lle_c (Or.inl rfl) (lle_c (Or.inl rfl) (lle_c (Or.inl rfl) (lle_c (Or.inr rfl) lle_n))))))
theorem b_X11_gift_90 {x1 : Int} {x2 : Int} {x3 : Int} {t0 : Int} {σ : St} {Q : Res → St → Prop} (h : ((t0 = 0) → ((in32 (x3 + 1)) ∧ (WP mX11_gift 57 [vR 12 0, vI x1, vI x2, vI (x3 + 1), vU] [] σ Q))) ∧ ((t0 ≠ 0) → ((in32 (x3 + 1)) ∧ (WP mX11_gift 57 [vR 12 0, vI x1, vI x3, vI (x3 + 1), vU] [] σ Q)))) : WP mX11_gift 90 [vR 12 0, vI x1, vI x2, vI x3, vU] [vI t0] σ Q := by
  refine wp_if_eq (tgt := 95) dX11_gift_90 (by decide) (fun hc => ?_) (fun hc => ?_)
  · replace h := h.1 hc
    have s1 := h.1
    replace h := h.2
    refine wp_iinc dX11_gift_95 rfl (by decide) rfl rfl ?_ (h1 := s1.1) (h2 := s1.2)
    refine wp_goto (tgt := 57) dX11_gift_98 (by decide) ?_
    exact h
  · replace h := h.2 hc
    refine wp_iload_n dX11_gift_93 rfl rfl ?_
    refine wp_istore_n dX11_gift_94 rfl (by decide) rfl rfl ?_
    have s2 := h.1
    replace h := h.2
    refine wp_iinc dX11_gift_95 rfl (by decide) rfl rfl ?_ (h1 := s2.1) (h2 := s2.2)
    refine wp_goto (tgt := 57) dX11_gift_98 (by decide) ?_
    exact h
theorem dX11_shortly_0 : decode cX11_shortly 0 = .ok (.aload_n 0, 1) := by decide +kernel
theorem dX11_shortly_1 : decode cX11_shortly 1 = .ok (.getfield 28, 3) := by decide +kernel
theorem dX11_shortly_4 : decode cX11_shortly 4 = .ok (.invokevirtual 165, 3) := by decide +kernel
theorem dX11_shortly_7 : decode cX11_shortly 7 = .ok (.aload_n 0, 1) := by decide +kernel
theorem dX11_shortly_8 : decode cX11_shortly 8 = .ok (.getfield 264, 3) := by decide +kernel
theorem dX11_shortly_11 : decode cX11_shortly 11 = .ok (.bipush (-9), 2) := by decide +kernel
theorem dX11_shortly_13 : decode cX11_shortly 13 = .ok (.if_icmp .ne 11, 3) := by decide +kernel
theorem dX11_shortly_16 : decode cX11_shortly 16 = .ok (.aload_n 0, 1) := by decide +kernel
theorem dX11_shortly_17 : decode cX11_shortly 17 = .ok (.aload_n 0, 1) := by decide +kernel
theorem dX11_shortly_18 : decode cX11_shortly 18 = .ok (.invokevirtual 267, 3) := by decide +kernel
theorem dX11_shortly_21 : decode cX11_shortly 21 = .ok (.putfield 264, 3) := by decide +kernel
theorem dX11_shortly_24 : decode cX11_shortly 24 = .ok (.aload_n 0, 1) := by decide +kernel
theorem dX11_shortly_25 : decode cX11_shortly 25 = .ok (.getfield 264, 3) := by decide +kernel
theorem dX11_shortly_28 : decode cX11_shortly 28 = .ok (.ireturn, 1) := by decide +kernel
theorem b_X11_shortly_0  {σ : St} {Q : Res → St → Prop} (h : WP mX1_ready 0 [vR 2 0] [] σ (CT mX11_shortly 7 [vR 12 0] [] Q)) : WP mX11_shortly 0 [vR 12 0] [] σ Q := by
  refine wp_aload_n dX11_shortly_0 rfl rfl ?_
  refine wp_getR dX11_shortly_1 fl_CustomValley_28 rfl rfl ?_
  refine wp_invV (N := mX1_ready) [] dX11_shortly_4 ml_CustomValley_165 mvX1_ready rfl rfl rfl rfl rfl (Nat.le_of_ble_eq_true rfl) (Nat.le_of_ble_eq_true rfl) (by decide) (by decide) (by decide) ?_
  exact h
theorem b_X11_shortly_7  {σ : St} {Q : Res → St → Prop} (h : (((σ 12 0 17) ≠ (-9)) → (Q (.inl (some (vI (σ 12 0 17)))) σ)) ∧ (((σ 12 0 17) = (-9)) → (WP mX11_findShort 0 [vR 12 0, vU, vU, vU, vU] [] σ (CT mX11_shortly 21 [vR 12 0] [vR 12 0] Q)))) : WP mX11_shortly 7 [vR 12 0] [] σ Q := by
  refine wp_aload_n dX11_shortly_7 rfl rfl ?_
  refine wp_getI dX11_shortly_8 fl_CustomValley_264 rfl rfl rfl ?_
  refine wp_bipush dX11_shortly_11 rfl ?_
  refine wp_icmp_ne (tgt := 24) dX11_shortly_13 (by decide) (fun hc => ?_) (fun hc => ?_)
  · replace h := h.1 hc
    refine wp_aload_n dX11_shortly_24 rfl rfl ?_
    refine wp_getI dX11_shortly_25 fl_CustomValley_264 rfl rfl rfl ?_
    exact wp_iret dX11_shortly_28 rfl h
  · replace h := h.2 hc
    refine wp_aload_n dX11_shortly_16 rfl rfl ?_
    refine wp_aload_n dX11_shortly_17 rfl rfl ?_
    refine wp_invV (N := mX11_findShort) [] dX11_shortly_18 ml_CustomValley_267 mvX11_findShort rfl rfl rfl rfl rfl (Nat.le_of_ble_eq_true rfl) (Nat.le_of_ble_eq_true rfl) (by decide) (by decide) (by decide) ?_
    exact h
theorem b_X11_shortly_21 {t0 : Int} {σ : St} {Q : Res → St → Prop} (h : Q (.inl (some (vI t0))) (up σ 12 0 17 t0)) : WP mX11_shortly 21 [vR 12 0] [vI t0, vR 12 0] σ Q := by
  refine wp_putI dX11_shortly_21 fp_CustomValley_264 rfl rfl rfl ?_
  refine wp_aload_n dX11_shortly_24 rfl rfl ?_
  refine wp_getI dX11_shortly_25 fl_CustomValley_264 rfl rfl rfl ?_
  rw [show (up σ 12 0 17 t0) 12 0 17 = t0 from by simp [up]]
  exact wp_iret dX11_shortly_28 rfl h
theorem dX11_valley_0 : decode cX11_valley 0 = .ok (.aload_n 0, 1) := by decide +kernel
theorem dX11_valley_1 : decode cX11_valley 1 = .ok (.getfield 21, 3) := by decide +kernel
theorem dX11_valley_4 : decode cX11_valley 4 = .ok (.invokevirtual 97, 3) := by decide +kernel
theorem dX11_valley_7 : decode cX11_valley 7 = .ok (.aload_n 0, 1) := by decide +kernel
theorem dX11_valley_8 : decode cX11_valley 8 = .ok (.getfield 10, 3) := by decide +kernel
theorem dX11_valley_11 : decode cX11_valley 11 = .ok (.iconst 0, 1) := by decide +kernel
theorem dX11_valley_12 : decode cX11_valley 12 = .ok (.putfield 89, 3) := by decide +kernel
theorem dX11_valley_15 : decode cX11_valley 15 = .ok (.aload_n 0, 1) := by decide +kernel
theorem dX11_valley_16 : decode cX11_valley 16 = .ok (.getfield 21, 3) := by decide +kernel
theorem dX11_valley_19 : decode cX11_valley 19 = .ok (.getfield 100, 3) := by decide +kernel
theorem dX11_valley_22 : decode cX11_valley 22 = .ok (.ifCond .eq 5, 3) := by decide +kernel
theorem dX11_valley_25 : decode cX11_valley 25 = .ok (.iconst (-1), 1) := by decide +kernel
theorem dX11_valley_26 : decode cX11_valley 26 = .ok (.ireturn, 1) := by decide +kernel
theorem dX11_valley_27 : decode cX11_valley 27 = .ok (.aload_n 0, 1) := by decide +kernel
theorem dX11_valley_28 : decode cX11_valley 28 = .ok (.getfield 28, 3) := by decide +kernel
theorem dX11_valley_31 : decode cX11_valley 31 = .ok (.getfield 103, 3) := by decide +kernel
theorem dX11_valley_34 : decode cX11_valley 34 = .ok (.aload_n 0, 1) := by decide +kernel
theorem dX11_valley_35 : decode cX11_valley 35 = .ok (.getfield 21, 3) := by decide +kernel
theorem dX11_valley_38 : decode cX11_valley 38 = .ok (.getfield 107, 3) := by decide +kernel
theorem dX11_valley_41 : decode cX11_valley 41 = .ok (.invokevirtual 110, 3) := by decide +kernel
theorem dX11_valley_44 : decode cX11_valley 44 = .ok (.aload_n 0, 1) := by decide +kernel
theorem dX11_valley_45 : decode cX11_valley 45 = .ok (.getfield 28, 3) := by decide +kernel
theorem dX11_valley_48 : decode cX11_valley 48 = .ok (.invokevirtual 116, 3) := by decide +kernel
theorem dX11_valley_51 : decode cX11_valley 51 = .ok (.aload_n 0, 1) := by decide +kernel
theorem dX11_valley_52 : decode cX11_valley 52 = .ok (.getfield 72, 3) := by decide +kernel
theorem dX11_valley_55 : decode cX11_valley 55 = .ok (.invokevirtual 119, 3) := by decide +kernel
theorem dX11_valley_58 : decode cX11_valley 58 = .ok (.aload_n 0, 1) := by decide +kernel
theorem dX11_valley_59 : decode cX11_valley 59 = .ok (.invokevirtual 86, 3) := by decide +kernel
theorem dX11_valley_62 : decode cX11_valley 62 = .ok (.aload_n 0, 1) := by decide +kernel
theorem dX11_valley_63 : decode cX11_valley 63 = .ok (.getfield 28, 3) := by decide +kernel
theorem dX11_valley_66 : decode cX11_valley 66 = .ok (.getfield 103, 3) := by decide +kernel
theorem dX11_valley_69 : decode cX11_valley 69 = .ok (.getfield 122, 3) := by decide +kernel
theorem dX11_valley_72 : decode cX11_valley 72 = .ok (.ireturn, 1) := by decide +kernel
theorem b_X11_valley_0  {σ : St} {Q : Res → St → Prop} (h : WP mX2_readValley 0 [vR 3 0, vU] [] σ (CT mX11_valley 7 [vR 12 0] [] Q)) : WP mX11_valley 0 [vR 12 0] [] σ Q := by
  refine wp_aload_n dX11_valley_0 rfl rfl ?_
  refine wp_getR dX11_valley_1 fl_CustomValley_21 rfl rfl ?_
  refine wp_invV (N := mX2_readValley) [] dX11_valley_4 ml_CustomValley_97 mvX2_readValley rfl rfl rfl rfl rfl (Nat.le_of_ble_eq_true rfl) (Nat.le_of_ble_eq_true rfl) (by decide) (by decide) (by decide) ?_
  exact h
theorem b_X11_valley_7  {σ : St} {Q : Res → St → Prop} (h : (((σ 3 0 2) = 0) → (WP mX9_copyFrom 0 [vR 10 0, vR 10 2] [] (up σ 8 0 1 0) (CT mX11_valley 44 [vR 12 0] [] Q))) ∧ (((σ 3 0 2) ≠ 0) → (Q (.inl (some (vI (-1)))) (up σ 8 0 1 0)))) : WP mX11_valley 7 [vR 12 0] [] σ Q := by
  refine wp_aload_n dX11_valley_7 rfl rfl ?_
  refine wp_getR dX11_valley_8 fl_CustomValley_10 rfl rfl ?_
  refine wp_iconst dX11_valley_11 rfl ?_
  refine wp_putI dX11_valley_12 fp_CustomValley_89 rfl rfl rfl ?_
  refine wp_aload_n dX11_valley_15 rfl rfl ?_
  refine wp_getR dX11_valley_16 fl_CustomValley_21 rfl rfl ?_
  refine wp_getI dX11_valley_19 fl_CustomValley_100 rfl rfl rfl ?_
  rw [show (up σ 8 0 1 0) 3 0 2 = σ 3 0 2 from by simp [up]]
  refine wp_if_eq (tgt := 27) dX11_valley_22 (by decide) (fun hc => ?_) (fun hc => ?_)
  · replace h := h.1 hc
    refine wp_aload_n dX11_valley_27 rfl rfl ?_
    refine wp_getR dX11_valley_28 fl_CustomValley_28 rfl rfl ?_
    refine wp_getR dX11_valley_31 fl_CustomValley_103 rfl rfl ?_
    refine wp_aload_n dX11_valley_34 rfl rfl ?_
    refine wp_getR dX11_valley_35 fl_CustomValley_21 rfl rfl ?_
    refine wp_getR dX11_valley_38 fl_CustomValley_107 rfl rfl ?_
    refine wp_invV (N := mX9_copyFrom) [vR 10 2] dX11_valley_41 ml_CustomValley_110 mvX9_copyFrom rfl rfl rfl rfl rfl (Nat.le_of_ble_eq_true rfl) (Nat.le_of_ble_eq_true rfl) (by decide) (by decide) (by decide) ?_
    exact h
  · replace h := h.2 hc
    refine wp_iconst dX11_valley_25 rfl ?_
    exact wp_iret dX11_valley_26 rfl h
theorem b_X11_valley_44  {σ : St} {Q : Res → St → Prop} (h : WP mX1_change 0 [vR 2 0] [] σ (CT mX11_valley 51 [vR 12 0] [] Q)) : WP mX11_valley 44 [vR 12 0] [] σ Q := by
  refine wp_aload_n dX11_valley_44 rfl rfl ?_
  refine wp_getR dX11_valley_45 fl_CustomValley_28 rfl rfl ?_
  refine wp_invV (N := mX1_change) [] dX11_valley_48 ml_CustomValley_116 mvX1_change rfl rfl rfl rfl rfl (Nat.le_of_ble_eq_true rfl) (Nat.le_of_ble_eq_true rfl) (by decide) (by decide) (by decide) ?_
  exact h
theorem b_X11_valley_51  {σ : St} {Q : Res → St → Prop} (h : WP mX6_clear 0 [vR 7 0] [] σ (CT mX11_valley 58 [vR 12 0] [] Q)) : WP mX11_valley 51 [vR 12 0] [] σ Q := by
  refine wp_aload_n dX11_valley_51 rfl rfl ?_
  refine wp_getR dX11_valley_52 fl_CustomValley_72 rfl rfl ?_
  refine wp_invV (N := mX6_clear) [] dX11_valley_55 ml_CustomValley_119 mvX6_clear rfl rfl rfl rfl rfl (Nat.le_of_ble_eq_true rfl) (Nat.le_of_ble_eq_true rfl) (by decide) (by decide) (by decide) ?_
  exact h
theorem b_X11_valley_58  {σ : St} {Q : Res → St → Prop} (h : WP mX11_forget 0 [vR 12 0] [] σ (CT mX11_valley 62 [vR 12 0] [] Q)) : WP mX11_valley 58 [vR 12 0] [] σ Q := by
  refine wp_aload_n dX11_valley_58 rfl rfl ?_
  refine wp_invV (N := mX11_forget) [] dX11_valley_59 ml_CustomValley_86 mvX11_forget rfl rfl rfl rfl rfl (Nat.le_of_ble_eq_true rfl) (Nat.le_of_ble_eq_true rfl) (by decide) (by decide) (by decide) ?_
  exact h
theorem b_X11_valley_62  {σ : St} {Q : Res → St → Prop} (h : Q (.inl (some (vI (σ 10 0 4)))) σ) : WP mX11_valley 62 [vR 12 0] [] σ Q := by
  refine wp_aload_n dX11_valley_62 rfl rfl ?_
  refine wp_getR dX11_valley_63 fl_CustomValley_28 rfl rfl ?_
  refine wp_getR dX11_valley_66 fl_CustomValley_103 rfl rfl ?_
  refine wp_getI dX11_valley_69 fl_CustomValley_122 rfl rfl rfl ?_
  exact wp_iret dX11_valley_72 rfl h
