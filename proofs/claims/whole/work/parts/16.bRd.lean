theorem dX2_isBlank_0 : decode cX2_isBlank 0 = .ok (.iload_n 0, 1) := by decide +kernel
theorem dX2_isBlank_1 : decode cX2_isBlank 1 = .ok (.bipush 32, 2) := by decide +kernel
theorem dX2_isBlank_3 : decode cX2_isBlank 3 = .ok (.if_icmp .eq 9, 3) := by decide +kernel
theorem dX2_isBlank_6 : decode cX2_isBlank 6 = .ok (.iload_n 0, 1) := by decide +kernel
theorem dX2_isBlank_7 : decode cX2_isBlank 7 = .ok (.bipush 10, 2) := by decide +kernel
theorem dX2_isBlank_9 : decode cX2_isBlank 9 = .ok (.if_icmp .ne 7, 3) := by decide +kernel
theorem dX2_isBlank_12 : decode cX2_isBlank 12 = .ok (.iconst 1, 1) := by decide +kernel
theorem dX2_isBlank_13 : decode cX2_isBlank 13 = .ok (.goto 4, 3) := by decide +kernel
theorem dX2_isBlank_16 : decode cX2_isBlank 16 = .ok (.iconst 0, 1) := by decide +kernel
theorem dX2_isBlank_17 : decode cX2_isBlank 17 = .ok (.ireturn, 1) := by decide +kernel
theorem b_X2_isBlank_0 {x0 : Int} {σ : St} {Q : Res → St → Prop} (h : ((x0 = 32) → (Q (.inl (some (vI 1))) σ)) ∧ ((x0 ≠ 32) → (((x0 ≠ 10) → (Q (.inl (some (vI 0))) σ)) ∧ ((x0 = 10) → (Q (.inl (some (vI 1))) σ))))) : WP mX2_isBlank 0 [vI x0] [] σ Q := by
  refine wp_iload_n dX2_isBlank_0 rfl rfl ?_
  refine wp_bipush dX2_isBlank_1 rfl ?_
  refine wp_icmp_eq (tgt := 12) dX2_isBlank_3 (by decide) (fun hc => ?_) (fun hc => ?_)
  · replace h := h.1 hc
    refine wp_iconst dX2_isBlank_12 rfl ?_
    refine wp_goto (tgt := 17) dX2_isBlank_13 (by decide) ?_
    exact wp_zret dX2_isBlank_17 rfl h (by decide)
  · replace h := h.2 hc
    refine wp_iload_n dX2_isBlank_6 rfl rfl ?_
    refine wp_bipush dX2_isBlank_7 rfl ?_
    refine wp_icmp_ne (tgt := 16) dX2_isBlank_9 (by decide) (fun hc => ?_) (fun hc => ?_)
    · replace h := h.1 hc
      refine wp_iconst dX2_isBlank_16 rfl ?_
      exact wp_zret dX2_isBlank_17 rfl h (by decide)
    · replace h := h.2 hc
      refine wp_iconst dX2_isBlank_12 rfl ?_
      refine wp_goto (tgt := 17) dX2_isBlank_13 (by decide) ?_
      exact wp_zret dX2_isBlank_17 rfl h (by decide)
theorem pb_X2_isBlank {x0 : Int} {σ : St} {Q : Res → St → Prop} (hs : True) (h : Q (.inl (some (vI (b2 (x0 = 32 ∨ x0 = 10))))) σ) : WP mX2_isBlank 0 [vI x0] [] σ Q := by
  refine b_X2_isBlank_0 ?_
  by_cases hp : (x0 = 32 ∨ x0 = 10)
  · rw [b2, if_pos hp] at h
    (repeat' (first | intro _ | apply And.intro)) <;> (first | exact h | omega | (exfalso; omega) | (exact absurd (by assumption) (by omega)))
  · rw [b2, if_neg hp] at h
    (repeat' (first | intro _ | apply And.intro)) <;> (first | exact h | omega | (exfalso; omega) | (exact absurd (by assumption) (by omega)))
theorem dX2_isDigit_0 : decode cX2_isDigit 0 = .ok (.iload_n 0, 1) := by decide +kernel
theorem dX2_isDigit_1 : decode cX2_isDigit 1 = .ok (.bipush 48, 2) := by decide +kernel
theorem dX2_isDigit_3 : decode cX2_isDigit 3 = .ok (.if_icmp .lt 13, 3) := by decide +kernel
theorem dX2_isDigit_6 : decode cX2_isDigit 6 = .ok (.iload_n 0, 1) := by decide +kernel
theorem dX2_isDigit_7 : decode cX2_isDigit 7 = .ok (.bipush 57, 2) := by decide +kernel
theorem dX2_isDigit_9 : decode cX2_isDigit 9 = .ok (.if_icmp .gt 7, 3) := by decide +kernel
theorem dX2_isDigit_12 : decode cX2_isDigit 12 = .ok (.iconst 1, 1) := by decide +kernel
theorem dX2_isDigit_13 : decode cX2_isDigit 13 = .ok (.goto 4, 3) := by decide +kernel
theorem dX2_isDigit_16 : decode cX2_isDigit 16 = .ok (.iconst 0, 1) := by decide +kernel
theorem dX2_isDigit_17 : decode cX2_isDigit 17 = .ok (.ireturn, 1) := by decide +kernel
theorem b_X2_isDigit_0 {x0 : Int} {σ : St} {Q : Res → St → Prop} (h : ((x0 < 48) → (Q (.inl (some (vI 0))) σ)) ∧ ((48 ≤ x0) → (((57 < x0) → (Q (.inl (some (vI 0))) σ)) ∧ ((x0 ≤ 57) → (Q (.inl (some (vI 1))) σ))))) : WP mX2_isDigit 0 [vI x0] [] σ Q := by
  refine wp_iload_n dX2_isDigit_0 rfl rfl ?_
  refine wp_bipush dX2_isDigit_1 rfl ?_
  refine wp_icmp_lt (tgt := 16) dX2_isDigit_3 (by decide) (fun hc => ?_) (fun hc => ?_)
  · replace h := h.1 hc
    refine wp_iconst dX2_isDigit_16 rfl ?_
    exact wp_zret dX2_isDigit_17 rfl h (by decide)
  · replace h := h.2 hc
    refine wp_iload_n dX2_isDigit_6 rfl rfl ?_
    refine wp_bipush dX2_isDigit_7 rfl ?_
    refine wp_icmp_gt (tgt := 16) dX2_isDigit_9 (by decide) (fun hc => ?_) (fun hc => ?_)
    · replace h := h.1 hc
      refine wp_iconst dX2_isDigit_16 rfl ?_
      exact wp_zret dX2_isDigit_17 rfl h (by decide)
    · replace h := h.2 hc
      refine wp_iconst dX2_isDigit_12 rfl ?_
      refine wp_goto (tgt := 17) dX2_isDigit_13 (by decide) ?_
      exact wp_zret dX2_isDigit_17 rfl h (by decide)
theorem pb_X2_isDigit {x0 : Int} {σ : St} {Q : Res → St → Prop} (hs : True) (h : Q (.inl (some (vI (b2 (48 ≤ x0 ∧ x0 ≤ 57))))) σ) : WP mX2_isDigit 0 [vI x0] [] σ Q := by
  refine b_X2_isDigit_0 ?_
  by_cases hp : (48 ≤ x0 ∧ x0 ≤ 57)
  · rw [b2, if_pos hp] at h
    (repeat' (first | intro _ | apply And.intro)) <;> (first | exact h | omega | (exfalso; omega) | (exact absurd (by assumption) (by omega)))
  · rw [b2, if_neg hp] at h
    (repeat' (first | intro _ | apply And.intro)) <;> (first | exact h | omega | (exfalso; omega) | (exact absurd (by assumption) (by omega)))
theorem dX2_isLetter_0 : decode cX2_isLetter 0 = .ok (.iload_n 0, 1) := by decide +kernel
theorem dX2_isLetter_1 : decode cX2_isLetter 1 = .ok (.bipush 97, 2) := by decide +kernel
theorem dX2_isLetter_3 : decode cX2_isLetter 3 = .ok (.if_icmp .lt 13, 3) := by decide +kernel
theorem dX2_isLetter_6 : decode cX2_isLetter 6 = .ok (.iload_n 0, 1) := by decide +kernel
theorem dX2_isLetter_7 : decode cX2_isLetter 7 = .ok (.bipush 122, 2) := by decide +kernel
theorem dX2_isLetter_9 : decode cX2_isLetter 9 = .ok (.if_icmp .gt 7, 3) := by decide +kernel
theorem dX2_isLetter_12 : decode cX2_isLetter 12 = .ok (.iconst 1, 1) := by decide +kernel
theorem dX2_isLetter_13 : decode cX2_isLetter 13 = .ok (.goto 4, 3) := by decide +kernel
theorem dX2_isLetter_16 : decode cX2_isLetter 16 = .ok (.iconst 0, 1) := by decide +kernel
theorem dX2_isLetter_17 : decode cX2_isLetter 17 = .ok (.ireturn, 1) := by decide +kernel
theorem b_X2_isLetter_0 {x0 : Int} {σ : St} {Q : Res → St → Prop} (h : ((x0 < 97) → (Q (.inl (some (vI 0))) σ)) ∧ ((97 ≤ x0) → (((122 < x0) → (Q (.inl (some (vI 0))) σ)) ∧ ((x0 ≤ 122) → (Q (.inl (some (vI 1))) σ))))) : WP mX2_isLetter 0 [vI x0] [] σ Q := by
  refine wp_iload_n dX2_isLetter_0 rfl rfl ?_
  refine wp_bipush dX2_isLetter_1 rfl ?_
  refine wp_icmp_lt (tgt := 16) dX2_isLetter_3 (by decide) (fun hc => ?_) (fun hc => ?_)
  · replace h := h.1 hc
    refine wp_iconst dX2_isLetter_16 rfl ?_
    exact wp_zret dX2_isLetter_17 rfl h (by decide)
  · replace h := h.2 hc
    refine wp_iload_n dX2_isLetter_6 rfl rfl ?_
    refine wp_bipush dX2_isLetter_7 rfl ?_
    refine wp_icmp_gt (tgt := 16) dX2_isLetter_9 (by decide) (fun hc => ?_) (fun hc => ?_)
    · replace h := h.1 hc
      refine wp_iconst dX2_isLetter_16 rfl ?_
      exact wp_zret dX2_isLetter_17 rfl h (by decide)
    · replace h := h.2 hc
      refine wp_iconst dX2_isLetter_12 rfl ?_
      refine wp_goto (tgt := 17) dX2_isLetter_13 (by decide) ?_
      exact wp_zret dX2_isLetter_17 rfl h (by decide)
theorem pb_X2_isLetter {x0 : Int} {σ : St} {Q : Res → St → Prop} (hs : True) (h : Q (.inl (some (vI (b2 (97 ≤ x0 ∧ x0 ≤ 122))))) σ) : WP mX2_isLetter 0 [vI x0] [] σ Q := by
  refine b_X2_isLetter_0 ?_
  by_cases hp : (97 ≤ x0 ∧ x0 ≤ 122)
  · rw [b2, if_pos hp] at h
    (repeat' (first | intro _ | apply And.intro)) <;> (first | exact h | omega | (exfalso; omega) | (exact absurd (by assumption) (by omega)))
  · rw [b2, if_neg hp] at h
    (repeat' (first | intro _ | apply And.intro)) <;> (first | exact h | omega | (exfalso; omega) | (exact absurd (by assumption) (by omega)))
theorem dX2_fail_0 : decode cX2_fail 0 = .ok (.aload_n 0, 1) := by decide +kernel
theorem dX2_fail_1 : decode cX2_fail 1 = .ok (.getfield 32, 3) := by decide +kernel
theorem dX2_fail_4 : decode cX2_fail 4 = .ok (.ifCond .ne 16, 3) := by decide +kernel
theorem dX2_fail_7 : decode cX2_fail 7 = .ok (.aload_n 0, 1) := by decide +kernel
theorem dX2_fail_8 : decode cX2_fail 8 = .ok (.iload_n 1, 1) := by decide +kernel
theorem dX2_fail_9 : decode cX2_fail 9 = .ok (.putfield 32, 3) := by decide +kernel
theorem dX2_fail_12 : decode cX2_fail 12 = .ok (.aload_n 0, 1) := by decide +kernel
theorem dX2_fail_13 : decode cX2_fail 13 = .ok (.aload_n 0, 1) := by decide +kernel
theorem dX2_fail_14 : decode cX2_fail 14 = .ok (.getfield 69, 3) := by decide +kernel
theorem dX2_fail_17 : decode cX2_fail 17 = .ok (.putfield 18, 3) := by decide +kernel
theorem dX2_fail_20 : decode cX2_fail 20 = .ok (.return_, 1) := by decide +kernel
theorem b_X2_fail_0 {x1 : Int} {σ : St} {Q : Res → St → Prop} (h : (((σ 3 0 2) ≠ 0) → (Q (.inl none) σ)) ∧ (((σ 3 0 2) = 0) → (Q (.inl none) (up (up σ 3 0 2 x1) 3 0 3 (σ 3 0 6))))) : WP mX2_fail 0 [vR 3 0, vI x1] [] σ Q := by
  refine wp_aload_n dX2_fail_0 rfl rfl ?_
  refine wp_getI dX2_fail_1 fl_CustomValley_Reader_32 rfl rfl rfl ?_
  refine wp_if_ne (tgt := 20) dX2_fail_4 (by decide) (fun hc => ?_) (fun hc => ?_)
  · replace h := h.1 hc
    exact wp_ret dX2_fail_20 rfl h
  · replace h := h.2 hc
    refine wp_aload_n dX2_fail_7 rfl rfl ?_
    refine wp_iload_n dX2_fail_8 rfl rfl ?_
    refine wp_putI dX2_fail_9 fp_CustomValley_Reader_32 rfl rfl rfl ?_
    refine wp_aload_n dX2_fail_12 rfl rfl ?_
    refine wp_aload_n dX2_fail_13 rfl rfl ?_
    refine wp_getI dX2_fail_14 fl_CustomValley_Reader_69 rfl rfl rfl ?_
    rw [show (up σ 3 0 2 x1) 3 0 6 = σ 3 0 6 from by simp [up]]
    refine wp_putI dX2_fail_17 fp_CustomValley_Reader_18 rfl rfl rfl ?_
    exact wp_ret dX2_fail_20 rfl h
theorem dX2_tooMany_0 : decode cX2_tooMany 0 = .ok (.iconst 1, 1) := by decide +kernel
theorem dX2_tooMany_1 : decode cX2_tooMany 1 = .ok (.istore_n 2, 1) := by decide +kernel
theorem dX2_tooMany_2 : decode cX2_tooMany 2 = .ok (.iconst 0, 1) := by decide +kernel
theorem dX2_tooMany_3 : decode cX2_tooMany 3 = .ok (.istore_n 3, 1) := by decide +kernel
theorem dX2_tooMany_4 : decode cX2_tooMany 4 = .ok (.iload_n 3, 1) := by decide +kernel
theorem dX2_tooMany_5 : decode cX2_tooMany 5 = .ok (.iload_n 1, 1) := by decide +kernel
theorem dX2_tooMany_6 : decode cX2_tooMany 6 = .ok (.if_icmp .ge 20, 3) := by decide +kernel
theorem dX2_tooMany_9 : decode cX2_tooMany 9 = .ok (.iload_n 2, 1) := by decide +kernel
theorem dX2_tooMany_10 : decode cX2_tooMany 10 = .ok (.sipush 1024, 3) := by decide +kernel
theorem dX2_tooMany_13 : decode cX2_tooMany 13 = .ok (.if_icmp .gt 13, 3) := by decide +kernel
theorem dX2_tooMany_16 : decode cX2_tooMany 16 = .ok (.iload_n 2, 1) := by decide +kernel
theorem dX2_tooMany_17 : decode cX2_tooMany 17 = .ok (.iload_n 0, 1) := by decide +kernel
theorem dX2_tooMany_18 : decode cX2_tooMany 18 = .ok (.imul, 1) := by decide +kernel
theorem dX2_tooMany_19 : decode cX2_tooMany 19 = .ok (.istore_n 2, 1) := by decide +kernel
theorem dX2_tooMany_20 : decode cX2_tooMany 20 = .ok (.iinc 3 1, 3) := by decide +kernel
theorem dX2_tooMany_23 : decode cX2_tooMany 23 = .ok (.goto (-19), 3) := by decide +kernel
theorem dX2_tooMany_26 : decode cX2_tooMany 26 = .ok (.iload_n 2, 1) := by decide +kernel
theorem dX2_tooMany_27 : decode cX2_tooMany 27 = .ok (.sipush 1024, 3) := by decide +kernel
theorem dX2_tooMany_30 : decode cX2_tooMany 30 = .ok (.if_icmp .le 7, 3) := by decide +kernel
theorem dX2_tooMany_33 : decode cX2_tooMany 33 = .ok (.iconst 1, 1) := by decide +kernel
theorem dX2_tooMany_34 : decode cX2_tooMany 34 = .ok (.goto 4, 3) := by decide +kernel
theorem dX2_tooMany_37 : decode cX2_tooMany 37 = .ok (.iconst 0, 1) := by decide +kernel
theorem dX2_tooMany_38 : decode cX2_tooMany 38 = .ok (.ireturn, 1) := by decide +kernel
theorem b_X2_tooMany_0 {x0 : Int} {x1 : Int} {σ : St} {Q : Res → St → Prop} (h : WP mX2_tooMany 4 [vI x0, vI x1, vI 1, vI 0] [] σ Q) : WP mX2_tooMany 0 [vI x0, vI x1, vU, vU] [] σ Q := by
  refine wp_iconst dX2_tooMany_0 rfl ?_
  refine wp_istore_n dX2_tooMany_1 rfl (by decide) rfl rfl ?_
  refine wp_iconst dX2_tooMany_2 rfl ?_
  refine wp_istore_n dX2_tooMany_3 rfl (by decide) rfl rfl ?_
  exact h
theorem b_X2_tooMany_4 {x0 : Int} {x1 : Int} {x2 : Int} {x3 : Int} {σ : St} {Q : Res → St → Prop} (h : ((x1 ≤ x3) → (((x2 ≤ 1024) → (Q (.inl (some (vI 0))) σ)) ∧ ((1024 < x2) → (Q (.inl (some (vI 1))) σ)))) ∧ ((x3 < x1) → (((1024 < x2) → (((x2 ≤ 1024) → (Q (.inl (some (vI 0))) σ)) ∧ ((1024 < x2) → (Q (.inl (some (vI 1))) σ)))) ∧ ((x2 ≤ 1024) → ((in32 (x2 * x0)) ∧ ((in32 (x3 + 1)) ∧ (WP mX2_tooMany 4 [vI x0, vI x1, vI (x2 * x0), vI (x3 + 1)] [] σ Q))))))) : WP mX2_tooMany 4 [vI x0, vI x1, vI x2, vI x3] [] σ Q := by
  refine wp_iload_n dX2_tooMany_4 rfl rfl ?_
  refine wp_iload_n dX2_tooMany_5 rfl rfl ?_
  refine wp_icmp_ge (tgt := 26) dX2_tooMany_6 (by decide) (fun hc => ?_) (fun hc => ?_)
  · replace h := h.1 hc
    refine wp_iload_n dX2_tooMany_26 rfl rfl ?_
    refine wp_sipush dX2_tooMany_27 rfl ?_
    refine wp_icmp_le (tgt := 37) dX2_tooMany_30 (by decide) (fun hc => ?_) (fun hc => ?_)
    · replace h := h.1 hc
      refine wp_iconst dX2_tooMany_37 rfl ?_
      exact wp_zret dX2_tooMany_38 rfl h (by decide)
    · replace h := h.2 hc
      refine wp_iconst dX2_tooMany_33 rfl ?_
      refine wp_goto (tgt := 38) dX2_tooMany_34 (by decide) ?_
      exact wp_zret dX2_tooMany_38 rfl h (by decide)
  · replace h := h.2 hc
    refine wp_iload_n dX2_tooMany_9 rfl rfl ?_
    refine wp_sipush dX2_tooMany_10 rfl ?_
    refine wp_icmp_gt (tgt := 26) dX2_tooMany_13 (by decide) (fun hc => ?_) (fun hc => ?_)
    · replace h := h.1 hc
      refine wp_iload_n dX2_tooMany_26 rfl rfl ?_
      refine wp_sipush dX2_tooMany_27 rfl ?_
      refine wp_icmp_le (tgt := 37) dX2_tooMany_30 (by decide) (fun hc => ?_) (fun hc => ?_)
      · replace h := h.1 hc
        refine wp_iconst dX2_tooMany_37 rfl ?_
        exact wp_zret dX2_tooMany_38 rfl h (by decide)
      · replace h := h.2 hc
        refine wp_iconst dX2_tooMany_33 rfl ?_
        refine wp_goto (tgt := 38) dX2_tooMany_34 (by decide) ?_
        exact wp_zret dX2_tooMany_38 rfl h (by decide)
    · replace h := h.2 hc
      refine wp_iload_n dX2_tooMany_16 rfl rfl ?_
      refine wp_iload_n dX2_tooMany_17 rfl rfl ?_
      have s2 := h.1
      replace h := h.2
      refine wp_imul dX2_tooMany_18 ?_ (h1 := s2.1) (h2 := s2.2)
      refine wp_istore_n dX2_tooMany_19 rfl (by decide) rfl rfl ?_
      have s1 := h.1
      replace h := h.2
      refine wp_iinc dX2_tooMany_20 rfl (by decide) rfl rfl ?_ (h1 := s1.1) (h2 := s1.2)
      refine wp_goto (tgt := 4) dX2_tooMany_23 (by decide) ?_
      exact h
theorem dX2_endClause_0 : decode cX2_endClause 0 = .ok (.aload_n 0, 1) := by decide +kernel
theorem dX2_endClause_1 : decode cX2_endClause 1 = .ok (.getfield 35, 3) := by decide +kernel
theorem dX2_endClause_4 : decode cX2_endClause 4 = .ok (.iconst 3, 1) := by decide +kernel
theorem dX2_endClause_5 : decode cX2_endClause 5 = .ok (.if_icmp .eq 8, 3) := by decide +kernel
theorem dX2_endClause_8 : decode cX2_endClause 8 = .ok (.aload_n 0, 1) := by decide +kernel
theorem dX2_endClause_9 : decode cX2_endClause 9 = .ok (.iconst 1, 1) := by decide +kernel
theorem dX2_endClause_10 : decode cX2_endClause 10 = .ok (.invokevirtual 155, 3) := by decide +kernel
theorem dX2_endClause_13 : decode cX2_endClause 13 = .ok (.return_, 1) := by decide +kernel
theorem b_X2_endClause_0  {σ : St} {Q : Res → St → Prop} (h : (((σ 3 0 5) = 3) → (WP mX2_endClause 13 [vU] [] σ Q)) ∧ (((σ 3 0 5) ≠ 3) → (WP mX2_fail 0 [vR 3 0, vI 1] [] σ (CT mX2_endClause 13 [vU] [] Q)))) : WP mX2_endClause 0 [vR 3 0] [] σ Q := by
  refine wp_aload_n dX2_endClause_0 rfl rfl ?_
  refine wp_getI dX2_endClause_1 fl_CustomValley_Reader_35 rfl rfl rfl ?_
  refine wp_iconst dX2_endClause_4 rfl ?_
  refine wp_icmp_eq (tgt := 13) dX2_endClause_5 (by decide) (fun hc => ?_) (fun hc => ?_)
  · replace h := h.1 hc
    exact wp_drop (als' := [vU]) (lle_c (Or.inr rfl) lle_n) h
  · replace h := h.2 hc
    refine wp_aload_n dX2_endClause_8 rfl rfl ?_
    refine wp_iconst dX2_endClause_9 rfl ?_
    refine wp_invV (N := mX2_fail) [vI 1] dX2_endClause_10 ml_CustomValley_Reader_155 mvX2_fail rfl rfl rfl rfl rfl (Nat.le_of_ble_eq_true rfl) (Nat.le_of_ble_eq_true rfl) (by decide) (by decide) (by decide) ?_
    exact WP.mono h (ct_drop (lle_c (Or.inr rfl) lle_n))
theorem b_X2_endClause_13  {σ : St} {Q : Res → St → Prop} (h : Q (.inl none) σ) : WP mX2_endClause 13 [vU] [] σ Q := by
  exact wp_ret dX2_endClause_13 rfl h
theorem dX2_numberWithin_0 : decode cX2_numberWithin 0 = .ok (.aload_n 0, 1) := by decide +kernel
theorem dX2_numberWithin_1 : decode cX2_numberWithin 1 = .ok (.getfield 35, 3) := by decide +kernel
theorem dX2_numberWithin_4 : decode cX2_numberWithin 4 = .ok (.iconst 2, 1) := by decide +kernel
theorem dX2_numberWithin_5 : decode cX2_numberWithin 5 = .ok (.if_icmp .eq 11, 3) := by decide +kernel
theorem dX2_numberWithin_8 : decode cX2_numberWithin 8 = .ok (.aload_n 0, 1) := by decide +kernel
theorem dX2_numberWithin_9 : decode cX2_numberWithin 9 = .ok (.iconst 1, 1) := by decide +kernel
theorem dX2_numberWithin_10 : decode cX2_numberWithin 10 = .ok (.invokevirtual 155, 3) := by decide +kernel
theorem dX2_numberWithin_13 : decode cX2_numberWithin 13 = .ok (.goto 24, 3) := by decide +kernel
theorem dX2_numberWithin_16 : decode cX2_numberWithin 16 = .ok (.aload_n 0, 1) := by decide +kernel
theorem dX2_numberWithin_17 : decode cX2_numberWithin 17 = .ok (.getfield 96, 3) := by decide +kernel
theorem dX2_numberWithin_20 : decode cX2_numberWithin 20 = .ok (.iload_n 1, 1) := by decide +kernel
theorem dX2_numberWithin_21 : decode cX2_numberWithin 21 = .ok (.if_icmp .lt 11, 3) := by decide +kernel
theorem dX2_numberWithin_24 : decode cX2_numberWithin 24 = .ok (.aload_n 0, 1) := by decide +kernel
theorem dX2_numberWithin_25 : decode cX2_numberWithin 25 = .ok (.getfield 96, 3) := by decide +kernel
theorem dX2_numberWithin_28 : decode cX2_numberWithin 28 = .ok (.iload_n 2, 1) := by decide +kernel
theorem dX2_numberWithin_29 : decode cX2_numberWithin 29 = .ok (.if_icmp .le 8, 3) := by decide +kernel
theorem dX2_numberWithin_32 : decode cX2_numberWithin 32 = .ok (.aload_n 0, 1) := by decide +kernel
theorem dX2_numberWithin_33 : decode cX2_numberWithin 33 = .ok (.iconst 2, 1) := by decide +kernel
theorem dX2_numberWithin_34 : decode cX2_numberWithin 34 = .ok (.invokevirtual 155, 3) := by decide +kernel
theorem dX2_numberWithin_37 : decode cX2_numberWithin 37 = .ok (.aload_n 0, 1) := by decide +kernel
theorem dX2_numberWithin_38 : decode cX2_numberWithin 38 = .ok (.getfield 32, 3) := by decide +kernel
theorem dX2_numberWithin_41 : decode cX2_numberWithin 41 = .ok (.ifCond .ne 10, 3) := by decide +kernel
theorem dX2_numberWithin_44 : decode cX2_numberWithin 44 = .ok (.aload_n 0, 1) := by decide +kernel
theorem dX2_numberWithin_45 : decode cX2_numberWithin 45 = .ok (.getfield 96, 3) := by decide +kernel
theorem dX2_numberWithin_48 : decode cX2_numberWithin 48 = .ok (.goto 4, 3) := by decide +kernel
theorem dX2_numberWithin_51 : decode cX2_numberWithin 51 = .ok (.iload_n 1, 1) := by decide +kernel
theorem dX2_numberWithin_52 : decode cX2_numberWithin 52 = .ok (.ireturn, 1) := by decide +kernel
theorem b_X2_numberWithin_0 {x1 : Int} {x2 : Int} {σ : St} {Q : Res → St → Prop} (h : (((σ 3 0 5) = 2) → ((((σ 3 0 7) < x1) → (WP mX2_fail 0 [vR 3 0, vI 2] [] σ (CT mX2_numberWithin 37 [vR 3 0, vI x1, vU] [] Q))) ∧ ((x1 ≤ (σ 3 0 7)) → ((((σ 3 0 7) ≤ x2) → (WP mX2_numberWithin 37 [vR 3 0, vI x1, vU] [] σ Q)) ∧ ((x2 < (σ 3 0 7)) → (WP mX2_fail 0 [vR 3 0, vI 2] [] σ (CT mX2_numberWithin 37 [vR 3 0, vI x1, vU] [] Q))))))) ∧ (((σ 3 0 5) ≠ 2) → (WP mX2_fail 0 [vR 3 0, vI 1] [] σ (CT mX2_numberWithin 13 [vR 3 0, vI x1, vU] [] Q)))) : WP mX2_numberWithin 0 [vR 3 0, vI x1, vI x2] [] σ Q := by
  refine wp_aload_n dX2_numberWithin_0 rfl rfl ?_
  refine wp_getI dX2_numberWithin_1 fl_CustomValley_Reader_35 rfl rfl rfl ?_
  refine wp_iconst dX2_numberWithin_4 rfl ?_
  refine wp_icmp_eq (tgt := 16) dX2_numberWithin_5 (by decide) (fun hc => ?_) (fun hc => ?_)
  · replace h := h.1 hc
    refine wp_aload_n dX2_numberWithin_16 rfl rfl ?_
    refine wp_getI dX2_numberWithin_17 fl_CustomValley_Reader_96 rfl rfl rfl ?_
    refine wp_iload_n dX2_numberWithin_20 rfl rfl ?_
    refine wp_icmp_lt (tgt := 32) dX2_numberWithin_21 (by decide) (fun hc => ?_) (fun hc => ?_)
    · replace h := h.1 hc
      refine wp_aload_n dX2_numberWithin_32 rfl rfl ?_
      refine wp_iconst dX2_numberWithin_33 rfl ?_
      refine wp_invV (N := mX2_fail) [vI 2] dX2_numberWithin_34 ml_CustomValley_Reader_155 mvX2_fail rfl rfl rfl rfl rfl (Nat.le_of_ble_eq_true rfl) (Nat.le_of_ble_eq_true rfl) (by decide) (by decide) (by decide) ?_
      exact WP.mono h (ct_drop (lle_c (Or.inl rfl) (lle_c (Or.inl rfl) (lle_c (Or.inr rfl) lle_n))))
    · replace h := h.2 hc
      refine wp_aload_n dX2_numberWithin_24 rfl rfl ?_
      refine wp_getI dX2_numberWithin_25 fl_CustomValley_Reader_96 rfl rfl rfl ?_
      refine wp_iload_n dX2_numberWithin_28 rfl rfl ?_
      refine wp_icmp_le (tgt := 37) dX2_numberWithin_29 (by decide) (fun hc => ?_) (fun hc => ?_)
      · replace h := h.1 hc
        exact wp_drop (als' := [vR 3 0, vI x1, vU]) (lle_c (Or.inl rfl) (lle_c (Or.inl rfl) (lle_c (Or.inr rfl) lle_n))) h
      · replace h := h.2 hc
        refine wp_aload_n dX2_numberWithin_32 rfl rfl ?_
        refine wp_iconst dX2_numberWithin_33 rfl ?_
        refine wp_invV (N := mX2_fail) [vI 2] dX2_numberWithin_34 ml_CustomValley_Reader_155 mvX2_fail rfl rfl rfl rfl rfl (Nat.le_of_ble_eq_true rfl) (Nat.le_of_ble_eq_true rfl) (by decide) (by decide) (by decide) ?_
        exact WP.mono h (ct_drop (lle_c (Or.inl rfl) (lle_c (Or.inl rfl) (lle_c (Or.inr rfl) lle_n))))
  · replace h := h.2 hc
    refine wp_aload_n dX2_numberWithin_8 rfl rfl ?_
    refine wp_iconst dX2_numberWithin_9 rfl ?_
    refine wp_invV (N := mX2_fail) [vI 1] dX2_numberWithin_10 ml_CustomValley_Reader_155 mvX2_fail rfl rfl rfl rfl rfl (Nat.le_of_ble_eq_true rfl) (Nat.le_of_ble_eq_true rfl) (by decide) (by decide) (by decide) ?_
    exact WP.mono h (ct_drop (lle_c (Or.inl rfl) (lle_c (Or.inl rfl) (lle_c (Or.inr rfl) lle_n))))
theorem b_X2_numberWithin_13 {x1 : Int} {σ : St} {Q : Res → St → Prop} (h : WP mX2_numberWithin 37 [vR 3 0, vI x1, vU] [] σ Q) : WP mX2_numberWithin 13 [vR 3 0, vI x1, vU] [] σ Q := by
  refine wp_goto (tgt := 37) dX2_numberWithin_13 (by decide) ?_
  exact h
theorem b_X2_numberWithin_37 {x1 : Int} {σ : St} {Q : Res → St → Prop} (h : (((σ 3 0 2) ≠ 0) → (Q (.inl (some (vI x1))) σ)) ∧ (((σ 3 0 2) = 0) → (Q (.inl (some (vI (σ 3 0 7)))) σ))) : WP mX2_numberWithin 37 [vR 3 0, vI x1, vU] [] σ Q := by
  refine wp_aload_n dX2_numberWithin_37 rfl rfl ?_
  refine wp_getI dX2_numberWithin_38 fl_CustomValley_Reader_32 rfl rfl rfl ?_
  refine wp_if_ne (tgt := 51) dX2_numberWithin_41 (by decide) (fun hc => ?_) (fun hc => ?_)
  · replace h := h.1 hc
    refine wp_iload_n dX2_numberWithin_51 rfl rfl ?_
    exact wp_iret dX2_numberWithin_52 rfl h
  · replace h := h.2 hc
    refine wp_aload_n dX2_numberWithin_44 rfl rfl ?_
    refine wp_getI dX2_numberWithin_45 fl_CustomValley_Reader_96 rfl rfl rfl ?_
    refine wp_goto (tgt := 52) dX2_numberWithin_48 (by decide) ?_
    exact wp_iret dX2_numberWithin_52 rfl h
theorem dX2_readNumber_0 : decode cX2_readNumber 0 = .ok (.aload_n 0, 1) := by decide +kernel
theorem dX2_readNumber_1 : decode cX2_readNumber 1 = .ok (.iconst 0, 1) := by decide +kernel
theorem dX2_readNumber_2 : decode cX2_readNumber 2 = .ok (.putfield 96, 3) := by decide +kernel
theorem dX2_readNumber_5 : decode cX2_readNumber 5 = .ok (.aload_n 0, 1) := by decide +kernel
theorem dX2_readNumber_6 : decode cX2_readNumber 6 = .ok (.getfield 56, 3) := by decide +kernel
theorem dX2_readNumber_9 : decode cX2_readNumber 9 = .ok (.aload_n 0, 1) := by decide +kernel
theorem dX2_readNumber_10 : decode cX2_readNumber 10 = .ok (.getfield 22, 3) := by decide +kernel
theorem dX2_readNumber_13 : decode cX2_readNumber 13 = .ok (.getfield 72, 3) := by decide +kernel
theorem dX2_readNumber_16 : decode cX2_readNumber 16 = .ok (.if_icmp .ge 72, 3) := by decide +kernel
theorem dX2_readNumber_19 : decode cX2_readNumber 19 = .ok (.aload_n 0, 1) := by decide +kernel
theorem dX2_readNumber_20 : decode cX2_readNumber 20 = .ok (.getfield 22, 3) := by decide +kernel
theorem dX2_readNumber_23 : decode cX2_readNumber 23 = .ok (.aload_n 0, 1) := by decide +kernel
theorem dX2_readNumber_24 : decode cX2_readNumber 24 = .ok (.getfield 56, 3) := by decide +kernel
theorem dX2_readNumber_27 : decode cX2_readNumber 27 = .ok (.invokevirtual 77, 3) := by decide +kernel
theorem dX2_readNumber_30 : decode cX2_readNumber 30 = .ok (.invokestatic 90, 3) := by decide +kernel
theorem dX2_readNumber_33 : decode cX2_readNumber 33 = .ok (.ifCond .eq 55, 3) := by decide +kernel
theorem dX2_readNumber_36 : decode cX2_readNumber 36 = .ok (.aload_n 0, 1) := by decide +kernel
theorem dX2_readNumber_37 : decode cX2_readNumber 37 = .ok (.getfield 56, 3) := by decide +kernel
theorem dX2_readNumber_40 : decode cX2_readNumber 40 = .ok (.aload_n 0, 1) := by decide +kernel
theorem dX2_readNumber_41 : decode cX2_readNumber 41 = .ok (.getfield 69, 3) := by decide +kernel
theorem dX2_readNumber_44 : decode cX2_readNumber 44 = .ok (.isub, 1) := by decide +kernel
theorem dX2_readNumber_45 : decode cX2_readNumber 45 = .ok (.iconst 4, 1) := by decide +kernel
theorem dX2_readNumber_46 : decode cX2_readNumber 46 = .ok (.if_icmp .ge 29, 3) := by decide +kernel
theorem dX2_readNumber_49 : decode cX2_readNumber 49 = .ok (.aload_n 0, 1) := by decide +kernel
theorem dX2_readNumber_50 : decode cX2_readNumber 50 = .ok (.aload_n 0, 1) := by decide +kernel
theorem dX2_readNumber_51 : decode cX2_readNumber 51 = .ok (.getfield 96, 3) := by decide +kernel
theorem dX2_readNumber_54 : decode cX2_readNumber 54 = .ok (.bipush 10, 2) := by decide +kernel
theorem dX2_readNumber_56 : decode cX2_readNumber 56 = .ok (.imul, 1) := by decide +kernel
theorem dX2_readNumber_57 : decode cX2_readNumber 57 = .ok (.aload_n 0, 1) := by decide +kernel
theorem dX2_readNumber_58 : decode cX2_readNumber 58 = .ok (.getfield 22, 3) := by decide +kernel
theorem dX2_readNumber_61 : decode cX2_readNumber 61 = .ok (.aload_n 0, 1) := by decide +kernel
theorem dX2_readNumber_62 : decode cX2_readNumber 62 = .ok (.getfield 56, 3) := by decide +kernel
theorem dX2_readNumber_65 : decode cX2_readNumber 65 = .ok (.invokevirtual 77, 3) := by decide +kernel
theorem dX2_readNumber_68 : decode cX2_readNumber 68 = .ok (.iadd, 1) := by decide +kernel
theorem dX2_readNumber_69 : decode cX2_readNumber 69 = .ok (.bipush 48, 2) := by decide +kernel
theorem dX2_readNumber_71 : decode cX2_readNumber 71 = .ok (.isub, 1) := by decide +kernel
theorem dX2_readNumber_72 : decode cX2_readNumber 72 = .ok (.putfield 96, 3) := by decide +kernel
theorem dX2_readNumber_75 : decode cX2_readNumber 75 = .ok (.aload_n 0, 1) := by decide +kernel
theorem dX2_readNumber_76 : decode cX2_readNumber 76 = .ok (.dup, 1) := by decide +kernel
theorem dX2_readNumber_77 : decode cX2_readNumber 77 = .ok (.getfield 56, 3) := by decide +kernel
theorem dX2_readNumber_80 : decode cX2_readNumber 80 = .ok (.iconst 1, 1) := by decide +kernel
theorem dX2_readNumber_81 : decode cX2_readNumber 81 = .ok (.iadd, 1) := by decide +kernel
theorem dX2_readNumber_82 : decode cX2_readNumber 82 = .ok (.putfield 56, 3) := by decide +kernel
theorem dX2_readNumber_85 : decode cX2_readNumber 85 = .ok (.goto (-80), 3) := by decide +kernel
theorem dX2_readNumber_88 : decode cX2_readNumber 88 = .ok (.aload_n 0, 1) := by decide +kernel
theorem dX2_readNumber_89 : decode cX2_readNumber 89 = .ok (.aload_n 0, 1) := by decide +kernel
theorem dX2_readNumber_90 : decode cX2_readNumber 90 = .ok (.getfield 56, 3) := by decide +kernel
theorem dX2_readNumber_93 : decode cX2_readNumber 93 = .ok (.aload_n 0, 1) := by decide +kernel
theorem dX2_readNumber_94 : decode cX2_readNumber 94 = .ok (.getfield 69, 3) := by decide +kernel
theorem dX2_readNumber_97 : decode cX2_readNumber 97 = .ok (.isub, 1) := by decide +kernel
theorem dX2_readNumber_98 : decode cX2_readNumber 98 = .ok (.iconst 4, 1) := by decide +kernel
theorem dX2_readNumber_99 : decode cX2_readNumber 99 = .ok (.if_icmp .gt 7, 3) := by decide +kernel
theorem dX2_readNumber_102 : decode cX2_readNumber 102 = .ok (.iconst 2, 1) := by decide +kernel
theorem dX2_readNumber_103 : decode cX2_readNumber 103 = .ok (.goto 4, 3) := by decide +kernel
theorem dX2_readNumber_106 : decode cX2_readNumber 106 = .ok (.iconst 4, 1) := by decide +kernel
theorem dX2_readNumber_107 : decode cX2_readNumber 107 = .ok (.putfield 35, 3) := by decide +kernel
theorem dX2_readNumber_110 : decode cX2_readNumber 110 = .ok (.return_, 1) := by decide +kernel
theorem b_X2_readNumber_0  {σ : St} {Q : Res → St → Prop} (h : WP mX2_readNumber 5 [vR 3 0] [] (up σ 3 0 7 0) Q) : WP mX2_readNumber 0 [vR 3 0] [] σ Q := by
  refine wp_aload_n dX2_readNumber_0 rfl rfl ?_
  refine wp_iconst dX2_readNumber_1 rfl ?_
  refine wp_putI dX2_readNumber_2 fp_CustomValley_Reader_96 rfl rfl rfl ?_
  exact h
theorem b_X2_readNumber_5  {σ : St} {Q : Res → St → Prop} (h : (((σ 8 0 1) ≤ (σ 3 0 4)) → ((in32 ((σ 3 0 4) - (σ 3 0 6))) ∧ (((4 < ((σ 3 0 4) - (σ 3 0 6))) → (Q (.inl none) (up σ 3 0 5 4))) ∧ ((((σ 3 0 4) - (σ 3 0 6)) ≤ 4) → (Q (.inl none) (up σ 3 0 5 2)))))) ∧ (((σ 3 0 4) < (σ 8 0 1)) → (((σ 8 0 1) ≤ 700) ∧ (((¬ (48 ≤ (if 0 ≤ (σ 3 0 4) ∧ (σ 3 0 4) < (σ 8 0 1) then band (σ 46 0 (((σ 3 0 4)).toNat)) 255 else -1) ∧ (if 0 ≤ (σ 3 0 4) ∧ (σ 3 0 4) < (σ 8 0 1) then band (σ 46 0 (((σ 3 0 4)).toNat)) 255 else -1) ≤ 57)) → ((in32 ((σ 3 0 4) - (σ 3 0 6))) ∧ (((4 < ((σ 3 0 4) - (σ 3 0 6))) → (Q (.inl none) (up σ 3 0 5 4))) ∧ ((((σ 3 0 4) - (σ 3 0 6)) ≤ 4) → (Q (.inl none) (up σ 3 0 5 2)))))) ∧ ((48 ≤ (if 0 ≤ (σ 3 0 4) ∧ (σ 3 0 4) < (σ 8 0 1) then band (σ 46 0 (((σ 3 0 4)).toNat)) 255 else -1) ∧ (if 0 ≤ (σ 3 0 4) ∧ (σ 3 0 4) < (σ 8 0 1) then band (σ 46 0 (((σ 3 0 4)).toNat)) 255 else -1) ≤ 57) → ((in32 ((σ 3 0 4) - (σ 3 0 6))) ∧ (((4 ≤ ((σ 3 0 4) - (σ 3 0 6))) → ((in32 ((σ 3 0 4) + 1)) ∧ (WP mX2_readNumber 5 [vR 3 0] [] (up σ 3 0 4 ((σ 3 0 4) + 1)) Q))) ∧ ((((σ 3 0 4) - (σ 3 0 6)) < 4) → ((in32 ((σ 3 0 7) * 10)) ∧ (((σ 8 0 1) ≤ 700) ∧ ((in32 (((σ 3 0 7) * 10) + (if 0 ≤ (σ 3 0 4) ∧ (σ 3 0 4) < (σ 8 0 1) then band (σ 46 0 (((σ 3 0 4)).toNat)) 255 else -1))) ∧ ((in32 ((((σ 3 0 7) * 10) + (if 0 ≤ (σ 3 0 4) ∧ (σ 3 0 4) < (σ 8 0 1) then band (σ 46 0 (((σ 3 0 4)).toNat)) 255 else -1)) - 48)) ∧ ((in32 ((σ 3 0 4) + 1)) ∧ (WP mX2_readNumber 5 [vR 3 0] [] (up (up σ 3 0 7 ((((σ 3 0 7) * 10) + (if 0 ≤ (σ 3 0 4) ∧ (σ 3 0 4) < (σ 8 0 1) then band (σ 46 0 (((σ 3 0 4)).toNat)) 255 else -1)) - 48)) 3 0 4 ((σ 3 0 4) + 1)) Q)))))))))))))) : WP mX2_readNumber 5 [vR 3 0] [] σ Q := by
  refine wp_aload_n dX2_readNumber_5 rfl rfl ?_
  refine wp_getI dX2_readNumber_6 fl_CustomValley_Reader_56 rfl rfl rfl ?_
  refine wp_aload_n dX2_readNumber_9 rfl rfl ?_
  refine wp_getR dX2_readNumber_10 fl_CustomValley_Reader_22 rfl rfl ?_
  refine wp_getI dX2_readNumber_13 fl_CustomValley_Reader_72 rfl rfl rfl ?_
  refine wp_icmp_ge (tgt := 88) dX2_readNumber_16 (by decide) (fun hc => ?_) (fun hc => ?_)
  · replace h := h.1 hc
    refine wp_aload_n dX2_readNumber_88 rfl rfl ?_
    refine wp_aload_n dX2_readNumber_89 rfl rfl ?_
    refine wp_getI dX2_readNumber_90 fl_CustomValley_Reader_56 rfl rfl rfl ?_
    refine wp_aload_n dX2_readNumber_93 rfl rfl ?_
    refine wp_getI dX2_readNumber_94 fl_CustomValley_Reader_69 rfl rfl rfl ?_
    have s1 := h.1
    replace h := h.2
    refine wp_isub dX2_readNumber_97 ?_ (h1 := s1.1) (h2 := s1.2)
    refine wp_iconst dX2_readNumber_98 rfl ?_
    refine wp_icmp_gt (tgt := 106) dX2_readNumber_99 (by decide) (fun hc => ?_) (fun hc => ?_)
    · replace h := h.1 hc
      refine wp_iconst dX2_readNumber_106 rfl ?_
      refine wp_putI dX2_readNumber_107 fp_CustomValley_Reader_35 rfl rfl rfl ?_
      exact wp_ret dX2_readNumber_110 rfl h
    · replace h := h.2 hc
      refine wp_iconst dX2_readNumber_102 rfl ?_
      refine wp_goto (tgt := 107) dX2_readNumber_103 (by decide) ?_
      refine wp_putI dX2_readNumber_107 fp_CustomValley_Reader_35 rfl rfl rfl ?_
      exact wp_ret dX2_readNumber_110 rfl h
  · replace h := h.2 hc
    refine wp_aload_n dX2_readNumber_19 rfl rfl ?_
    refine wp_getR dX2_readNumber_20 fl_CustomValley_Reader_22 rfl rfl ?_
    refine wp_aload_n dX2_readNumber_23 rfl rfl ?_
    refine wp_getI dX2_readNumber_24 fl_CustomValley_Reader_56 rfl rfl rfl ?_
    have s10 := h.1
    replace h := h.2
    refine wp_invV (N := mX7_at) [vI (σ 3 0 4)] dX2_readNumber_27 ml_CustomValley_Reader_77 mvX7_at rfl rfl rfl rfl rfl (Nat.le_of_ble_eq_true rfl) (Nat.le_of_ble_eq_true rfl) (by decide) (by decide) (by decide) ?_
    refine pb_X7_at s10 ?_
    show WP mX2_readNumber 30 [vR 3 0] [vI (if 0 ≤ (σ 3 0 4) ∧ (σ 3 0 4) < (σ 8 0 1) then band (σ 46 0 (((σ 3 0 4)).toNat)) 255 else -1)] σ Q
    refine wp_invS (N := mX2_isDigit) [vI (if 0 ≤ (σ 3 0 4) ∧ (σ 3 0 4) < (σ 8 0 1) then band (σ 46 0 (((σ 3 0 4)).toNat)) 255 else -1)] dX2_readNumber_30 ml_CustomValley_Reader_90 mvX2_isDigit rfl rfl rfl (Nat.le_of_ble_eq_true rfl) (Nat.le_of_ble_eq_true rfl) (by decide) (by decide) ?_
    refine pb_X2_isDigit (by trivial) ?_
    show WP mX2_readNumber 33 [vR 3 0] [vI (b2 (48 ≤ (if 0 ≤ (σ 3 0 4) ∧ (σ 3 0 4) < (σ 8 0 1) then band (σ 46 0 (((σ 3 0 4)).toNat)) 255 else -1) ∧ (if 0 ≤ (σ 3 0 4) ∧ (σ 3 0 4) < (σ 8 0 1) then band (σ 46 0 (((σ 3 0 4)).toNat)) 255 else -1) ≤ 57))] σ Q
    refine wp_if_eq (tgt := 88) dX2_readNumber_33 (by decide) (fun hc => ?_) (fun hc => ?_)
    · replace h := h.1 (b2_eq hc)
      refine wp_aload_n dX2_readNumber_88 rfl rfl ?_
      refine wp_aload_n dX2_readNumber_89 rfl rfl ?_
      refine wp_getI dX2_readNumber_90 fl_CustomValley_Reader_56 rfl rfl rfl ?_
      refine wp_aload_n dX2_readNumber_93 rfl rfl ?_
      refine wp_getI dX2_readNumber_94 fl_CustomValley_Reader_69 rfl rfl rfl ?_
      have s2 := h.1
      replace h := h.2
      refine wp_isub dX2_readNumber_97 ?_ (h1 := s2.1) (h2 := s2.2)
      refine wp_iconst dX2_readNumber_98 rfl ?_
      refine wp_icmp_gt (tgt := 106) dX2_readNumber_99 (by decide) (fun hc => ?_) (fun hc => ?_)
      · replace h := h.1 hc
        refine wp_iconst dX2_readNumber_106 rfl ?_
        refine wp_putI dX2_readNumber_107 fp_CustomValley_Reader_35 rfl rfl rfl ?_
        exact wp_ret dX2_readNumber_110 rfl h
      · replace h := h.2 hc
        refine wp_iconst dX2_readNumber_102 rfl ?_
        refine wp_goto (tgt := 107) dX2_readNumber_103 (by decide) ?_
        refine wp_putI dX2_readNumber_107 fp_CustomValley_Reader_35 rfl rfl rfl ?_
        exact wp_ret dX2_readNumber_110 rfl h
    · replace h := h.2 (b2_ne hc)
      refine wp_aload_n dX2_readNumber_36 rfl rfl ?_
      refine wp_getI dX2_readNumber_37 fl_CustomValley_Reader_56 rfl rfl rfl ?_
      refine wp_aload_n dX2_readNumber_40 rfl rfl ?_
      refine wp_getI dX2_readNumber_41 fl_CustomValley_Reader_69 rfl rfl rfl ?_
      have s9 := h.1
      replace h := h.2
      refine wp_isub dX2_readNumber_44 ?_ (h1 := s9.1) (h2 := s9.2)
      refine wp_iconst dX2_readNumber_45 rfl ?_
      refine wp_icmp_ge (tgt := 75) dX2_readNumber_46 (by decide) (fun hc => ?_) (fun hc => ?_)
      · replace h := h.1 hc
        refine wp_aload_n dX2_readNumber_75 rfl rfl ?_
        refine wp_dup dX2_readNumber_76 ?_
        refine wp_getI dX2_readNumber_77 fl_CustomValley_Reader_56 rfl rfl rfl ?_
        refine wp_iconst dX2_readNumber_80 rfl ?_
        have s3 := h.1
        replace h := h.2
        refine wp_iadd dX2_readNumber_81 ?_ (h1 := s3.1) (h2 := s3.2)
        refine wp_putI dX2_readNumber_82 fp_CustomValley_Reader_56 rfl rfl rfl ?_
        refine wp_goto (tgt := 5) dX2_readNumber_85 (by decide) ?_
        exact h
      · replace h := h.2 hc
        refine wp_aload_n dX2_readNumber_49 rfl rfl ?_
        refine wp_aload_n dX2_readNumber_50 rfl rfl ?_
        refine wp_getI dX2_readNumber_51 fl_CustomValley_Reader_96 rfl rfl rfl ?_
        refine wp_bipush dX2_readNumber_54 rfl ?_
        have s8 := h.1
        replace h := h.2
        refine wp_imul dX2_readNumber_56 ?_ (h1 := s8.1) (h2 := s8.2)
        refine wp_aload_n dX2_readNumber_57 rfl rfl ?_
        refine wp_getR dX2_readNumber_58 fl_CustomValley_Reader_22 rfl rfl ?_
        refine wp_aload_n dX2_readNumber_61 rfl rfl ?_
        refine wp_getI dX2_readNumber_62 fl_CustomValley_Reader_56 rfl rfl rfl ?_
        have s7 := h.1
        replace h := h.2
        refine wp_invV (N := mX7_at) [vI (σ 3 0 4)] dX2_readNumber_65 ml_CustomValley_Reader_77 mvX7_at rfl rfl rfl rfl rfl (Nat.le_of_ble_eq_true rfl) (Nat.le_of_ble_eq_true rfl) (by decide) (by decide) (by decide) ?_
        refine pb_X7_at s7 ?_
        show WP mX2_readNumber 68 [vR 3 0] [vI (if 0 ≤ (σ 3 0 4) ∧ (σ 3 0 4) < (σ 8 0 1) then band (σ 46 0 (((σ 3 0 4)).toNat)) 255 else -1), vI ((σ 3 0 7) * 10), vR 3 0] σ Q
        have s6 := h.1
        replace h := h.2
        refine wp_iadd dX2_readNumber_68 ?_ (h1 := s6.1) (h2 := s6.2)
        refine wp_bipush dX2_readNumber_69 rfl ?_
        have s5 := h.1
        replace h := h.2
        refine wp_isub dX2_readNumber_71 ?_ (h1 := s5.1) (h2 := s5.2)
        refine wp_putI dX2_readNumber_72 fp_CustomValley_Reader_96 rfl rfl rfl ?_
        refine wp_aload_n dX2_readNumber_75 rfl rfl ?_
        refine wp_dup dX2_readNumber_76 ?_
        refine wp_getI dX2_readNumber_77 fl_CustomValley_Reader_56 rfl rfl rfl ?_
        rw [show (up σ 3 0 7 ((((σ 3 0 7) * 10) + (if 0 ≤ (σ 3 0 4) ∧ (σ 3 0 4) < (σ 8 0 1) then band (σ 46 0 (((σ 3 0 4)).toNat)) 255 else -1)) - 48)) 3 0 4 = σ 3 0 4 from by simp [up]]
        refine wp_iconst dX2_readNumber_80 rfl ?_
        have s4 := h.1
        replace h := h.2
        refine wp_iadd dX2_readNumber_81 ?_ (h1 := s4.1) (h2 := s4.2)
        refine wp_putI dX2_readNumber_82 fp_CustomValley_Reader_56 rfl rfl rfl ?_
        refine wp_goto (tgt := 5) dX2_readNumber_85 (by decide) ?_
        exact h
theorem dX2_readWord_0 : decode cX2_readWord 0 = .ok (.aload_n 0, 1) := by decide +kernel
theorem dX2_readWord_1 : decode cX2_readWord 1 = .ok (.getfield 56, 3) := by decide +kernel
theorem dX2_readWord_4 : decode cX2_readWord 4 = .ok (.aload_n 0, 1) := by decide +kernel
theorem dX2_readWord_5 : decode cX2_readWord 5 = .ok (.getfield 22, 3) := by decide +kernel
theorem dX2_readWord_8 : decode cX2_readWord 8 = .ok (.getfield 72, 3) := by decide +kernel
theorem dX2_readWord_11 : decode cX2_readWord 11 = .ok (.if_icmp .ge 33, 3) := by decide +kernel
theorem dX2_readWord_14 : decode cX2_readWord 14 = .ok (.aload_n 0, 1) := by decide +kernel
theorem dX2_readWord_15 : decode cX2_readWord 15 = .ok (.getfield 22, 3) := by decide +kernel
theorem dX2_readWord_18 : decode cX2_readWord 18 = .ok (.aload_n 0, 1) := by decide +kernel
theorem dX2_readWord_19 : decode cX2_readWord 19 = .ok (.getfield 56, 3) := by decide +kernel
theorem dX2_readWord_22 : decode cX2_readWord 22 = .ok (.invokevirtual 77, 3) := by decide +kernel
theorem dX2_readWord_25 : decode cX2_readWord 25 = .ok (.invokestatic 84, 3) := by decide +kernel
theorem dX2_readWord_28 : decode cX2_readWord 28 = .ok (.ifCond .eq 16, 3) := by decide +kernel
theorem dX2_readWord_31 : decode cX2_readWord 31 = .ok (.aload_n 0, 1) := by decide +kernel
theorem dX2_readWord_32 : decode cX2_readWord 32 = .ok (.dup, 1) := by decide +kernel
theorem dX2_readWord_33 : decode cX2_readWord 33 = .ok (.getfield 56, 3) := by decide +kernel
theorem dX2_readWord_36 : decode cX2_readWord 36 = .ok (.iconst 1, 1) := by decide +kernel
theorem dX2_readWord_37 : decode cX2_readWord 37 = .ok (.iadd, 1) := by decide +kernel
theorem dX2_readWord_38 : decode cX2_readWord 38 = .ok (.putfield 56, 3) := by decide +kernel
theorem dX2_readWord_41 : decode cX2_readWord 41 = .ok (.goto (-41), 3) := by decide +kernel
theorem dX2_readWord_44 : decode cX2_readWord 44 = .ok (.aload_n 0, 1) := by decide +kernel
theorem dX2_readWord_45 : decode cX2_readWord 45 = .ok (.aload_n 0, 1) := by decide +kernel
theorem dX2_readWord_46 : decode cX2_readWord 46 = .ok (.getfield 56, 3) := by decide +kernel
theorem dX2_readWord_49 : decode cX2_readWord 49 = .ok (.aload_n 0, 1) := by decide +kernel
theorem dX2_readWord_50 : decode cX2_readWord 50 = .ok (.getfield 69, 3) := by decide +kernel
theorem dX2_readWord_53 : decode cX2_readWord 53 = .ok (.isub, 1) := by decide +kernel
theorem dX2_readWord_54 : decode cX2_readWord 54 = .ok (.bipush 8, 2) := by decide +kernel
theorem dX2_readWord_56 : decode cX2_readWord 56 = .ok (.if_icmp .gt 7, 3) := by decide +kernel
theorem dX2_readWord_59 : decode cX2_readWord 59 = .ok (.iconst 1, 1) := by decide +kernel
theorem dX2_readWord_60 : decode cX2_readWord 60 = .ok (.goto 4, 3) := by decide +kernel
theorem dX2_readWord_63 : decode cX2_readWord 63 = .ok (.iconst 4, 1) := by decide +kernel
theorem dX2_readWord_64 : decode cX2_readWord 64 = .ok (.putfield 35, 3) := by decide +kernel
theorem dX2_readWord_67 : decode cX2_readWord 67 = .ok (.return_, 1) := by decide +kernel
theorem b_X2_readWord_0  {σ : St} {Q : Res → St → Prop} (h : (((σ 8 0 1) ≤ (σ 3 0 4)) → ((in32 ((σ 3 0 4) - (σ 3 0 6))) ∧ (((8 < ((σ 3 0 4) - (σ 3 0 6))) → (Q (.inl none) (up σ 3 0 5 4))) ∧ ((((σ 3 0 4) - (σ 3 0 6)) ≤ 8) → (Q (.inl none) (up σ 3 0 5 1)))))) ∧ (((σ 3 0 4) < (σ 8 0 1)) → (((σ 8 0 1) ≤ 700) ∧ (((¬ (97 ≤ (if 0 ≤ (σ 3 0 4) ∧ (σ 3 0 4) < (σ 8 0 1) then band (σ 46 0 (((σ 3 0 4)).toNat)) 255 else -1) ∧ (if 0 ≤ (σ 3 0 4) ∧ (σ 3 0 4) < (σ 8 0 1) then band (σ 46 0 (((σ 3 0 4)).toNat)) 255 else -1) ≤ 122)) → ((in32 ((σ 3 0 4) - (σ 3 0 6))) ∧ (((8 < ((σ 3 0 4) - (σ 3 0 6))) → (Q (.inl none) (up σ 3 0 5 4))) ∧ ((((σ 3 0 4) - (σ 3 0 6)) ≤ 8) → (Q (.inl none) (up σ 3 0 5 1)))))) ∧ ((97 ≤ (if 0 ≤ (σ 3 0 4) ∧ (σ 3 0 4) < (σ 8 0 1) then band (σ 46 0 (((σ 3 0 4)).toNat)) 255 else -1) ∧ (if 0 ≤ (σ 3 0 4) ∧ (σ 3 0 4) < (σ 8 0 1) then band (σ 46 0 (((σ 3 0 4)).toNat)) 255 else -1) ≤ 122) → ((in32 ((σ 3 0 4) + 1)) ∧ (WP mX2_readWord 0 [vR 3 0] [] (up σ 3 0 4 ((σ 3 0 4) + 1)) Q))))))) : WP mX2_readWord 0 [vR 3 0] [] σ Q := by
  refine wp_aload_n dX2_readWord_0 rfl rfl ?_
  refine wp_getI dX2_readWord_1 fl_CustomValley_Reader_56 rfl rfl rfl ?_
  refine wp_aload_n dX2_readWord_4 rfl rfl ?_
  refine wp_getR dX2_readWord_5 fl_CustomValley_Reader_22 rfl rfl ?_
  refine wp_getI dX2_readWord_8 fl_CustomValley_Reader_72 rfl rfl rfl ?_
  refine wp_icmp_ge (tgt := 44) dX2_readWord_11 (by decide) (fun hc => ?_) (fun hc => ?_)
  · replace h := h.1 hc
    refine wp_aload_n dX2_readWord_44 rfl rfl ?_
    refine wp_aload_n dX2_readWord_45 rfl rfl ?_
    refine wp_getI dX2_readWord_46 fl_CustomValley_Reader_56 rfl rfl rfl ?_
    refine wp_aload_n dX2_readWord_49 rfl rfl ?_
    refine wp_getI dX2_readWord_50 fl_CustomValley_Reader_69 rfl rfl rfl ?_
    have s1 := h.1
    replace h := h.2
    refine wp_isub dX2_readWord_53 ?_ (h1 := s1.1) (h2 := s1.2)
    refine wp_bipush dX2_readWord_54 rfl ?_
    refine wp_icmp_gt (tgt := 63) dX2_readWord_56 (by decide) (fun hc => ?_) (fun hc => ?_)
    · replace h := h.1 hc
      refine wp_iconst dX2_readWord_63 rfl ?_
      refine wp_putI dX2_readWord_64 fp_CustomValley_Reader_35 rfl rfl rfl ?_
      exact wp_ret dX2_readWord_67 rfl h
    · replace h := h.2 hc
      refine wp_iconst dX2_readWord_59 rfl ?_
      refine wp_goto (tgt := 64) dX2_readWord_60 (by decide) ?_
      refine wp_putI dX2_readWord_64 fp_CustomValley_Reader_35 rfl rfl rfl ?_
      exact wp_ret dX2_readWord_67 rfl h
  · replace h := h.2 hc
    refine wp_aload_n dX2_readWord_14 rfl rfl ?_
    refine wp_getR dX2_readWord_15 fl_CustomValley_Reader_22 rfl rfl ?_
    refine wp_aload_n dX2_readWord_18 rfl rfl ?_
    refine wp_getI dX2_readWord_19 fl_CustomValley_Reader_56 rfl rfl rfl ?_
    have s4 := h.1
    replace h := h.2
    refine wp_invV (N := mX7_at) [vI (σ 3 0 4)] dX2_readWord_22 ml_CustomValley_Reader_77 mvX7_at rfl rfl rfl rfl rfl (Nat.le_of_ble_eq_true rfl) (Nat.le_of_ble_eq_true rfl) (by decide) (by decide) (by decide) ?_
    refine pb_X7_at s4 ?_
    show WP mX2_readWord 25 [vR 3 0] [vI (if 0 ≤ (σ 3 0 4) ∧ (σ 3 0 4) < (σ 8 0 1) then band (σ 46 0 (((σ 3 0 4)).toNat)) 255 else -1)] σ Q
    refine wp_invS (N := mX2_isLetter) [vI (if 0 ≤ (σ 3 0 4) ∧ (σ 3 0 4) < (σ 8 0 1) then band (σ 46 0 (((σ 3 0 4)).toNat)) 255 else -1)] dX2_readWord_25 ml_CustomValley_Reader_84 mvX2_isLetter rfl rfl rfl (Nat.le_of_ble_eq_true rfl) (Nat.le_of_ble_eq_true rfl) (by decide) (by decide) ?_
    refine pb_X2_isLetter (by trivial) ?_
    show WP mX2_readWord 28 [vR 3 0] [vI (b2 (97 ≤ (if 0 ≤ (σ 3 0 4) ∧ (σ 3 0 4) < (σ 8 0 1) then band (σ 46 0 (((σ 3 0 4)).toNat)) 255 else -1) ∧ (if 0 ≤ (σ 3 0 4) ∧ (σ 3 0 4) < (σ 8 0 1) then band (σ 46 0 (((σ 3 0 4)).toNat)) 255 else -1) ≤ 122))] σ Q
    refine wp_if_eq (tgt := 44) dX2_readWord_28 (by decide) (fun hc => ?_) (fun hc => ?_)
    · replace h := h.1 (b2_eq hc)
      refine wp_aload_n dX2_readWord_44 rfl rfl ?_
      refine wp_aload_n dX2_readWord_45 rfl rfl ?_
      refine wp_getI dX2_readWord_46 fl_CustomValley_Reader_56 rfl rfl rfl ?_
      refine wp_aload_n dX2_readWord_49 rfl rfl ?_
      refine wp_getI dX2_readWord_50 fl_CustomValley_Reader_69 rfl rfl rfl ?_
      have s2 := h.1
      replace h := h.2
      refine wp_isub dX2_readWord_53 ?_ (h1 := s2.1) (h2 := s2.2)
      refine wp_bipush dX2_readWord_54 rfl ?_
      refine wp_icmp_gt (tgt := 63) dX2_readWord_56 (by decide) (fun hc => ?_) (fun hc => ?_)
      · replace h := h.1 hc
        refine wp_iconst dX2_readWord_63 rfl ?_
        refine wp_putI dX2_readWord_64 fp_CustomValley_Reader_35 rfl rfl rfl ?_
        exact wp_ret dX2_readWord_67 rfl h
      · replace h := h.2 hc
        refine wp_iconst dX2_readWord_59 rfl ?_
        refine wp_goto (tgt := 64) dX2_readWord_60 (by decide) ?_
        refine wp_putI dX2_readWord_64 fp_CustomValley_Reader_35 rfl rfl rfl ?_
        exact wp_ret dX2_readWord_67 rfl h
    · replace h := h.2 (b2_ne hc)
      refine wp_aload_n dX2_readWord_31 rfl rfl ?_
      refine wp_dup dX2_readWord_32 ?_
      refine wp_getI dX2_readWord_33 fl_CustomValley_Reader_56 rfl rfl rfl ?_
      refine wp_iconst dX2_readWord_36 rfl ?_
      have s3 := h.1
      replace h := h.2
      refine wp_iadd dX2_readWord_37 ?_ (h1 := s3.1) (h2 := s3.2)
      refine wp_putI dX2_readWord_38 fp_CustomValley_Reader_56 rfl rfl rfl ?_
      refine wp_goto (tgt := 0) dX2_readWord_41 (by decide) ?_
      exact h
theorem dX2_tellOnce_0 : decode cX2_tellOnce 0 = .ok (.aload_n 0, 1) := by decide +kernel
theorem dX2_tellOnce_1 : decode cX2_tellOnce 1 = .ok (.getfield 44, 3) := by decide +kernel
theorem dX2_tellOnce_4 : decode cX2_tellOnce 4 = .ok (.iload_n 1, 1) := by decide +kernel
theorem dX2_tellOnce_5 : decode cX2_tellOnce 5 = .ok (.iand, 1) := by decide +kernel
theorem dX2_tellOnce_6 : decode cX2_tellOnce 6 = .ok (.ifCond .eq 8, 3) := by decide +kernel
theorem dX2_tellOnce_9 : decode cX2_tellOnce 9 = .ok (.aload_n 0, 1) := by decide +kernel
theorem dX2_tellOnce_10 : decode cX2_tellOnce 10 = .ok (.iconst 3, 1) := by decide +kernel
theorem dX2_tellOnce_11 : decode cX2_tellOnce 11 = .ok (.invokevirtual 155, 3) := by decide +kernel
theorem dX2_tellOnce_14 : decode cX2_tellOnce 14 = .ok (.aload_n 0, 1) := by decide +kernel
theorem dX2_tellOnce_15 : decode cX2_tellOnce 15 = .ok (.dup, 1) := by decide +kernel
theorem dX2_tellOnce_16 : decode cX2_tellOnce 16 = .ok (.getfield 44, 3) := by decide +kernel
theorem dX2_tellOnce_19 : decode cX2_tellOnce 19 = .ok (.iload_n 1, 1) := by decide +kernel
theorem dX2_tellOnce_20 : decode cX2_tellOnce 20 = .ok (.ior, 1) := by decide +kernel
theorem dX2_tellOnce_21 : decode cX2_tellOnce 21 = .ok (.putfield 44, 3) := by decide +kernel
theorem dX2_tellOnce_24 : decode cX2_tellOnce 24 = .ok (.return_, 1) := by decide +kernel
theorem b_X2_tellOnce_0 {x1 : Int} {σ : St} {Q : Res → St → Prop} (h : (((band (σ 3 0 8) x1) = 0) → (WP mX2_tellOnce 14 [vR 3 0, vI x1] [] σ Q)) ∧ (((band (σ 3 0 8) x1) ≠ 0) → (WP mX2_fail 0 [vR 3 0, vI 3] [] σ (CT mX2_tellOnce 14 [vR 3 0, vI x1] [] Q)))) : WP mX2_tellOnce 0 [vR 3 0, vI x1] [] σ Q := by
  refine wp_aload_n dX2_tellOnce_0 rfl rfl ?_
  refine wp_getI dX2_tellOnce_1 fl_CustomValley_Reader_44 rfl rfl rfl ?_
  refine wp_iload_n dX2_tellOnce_4 rfl rfl ?_
  refine wp_iand dX2_tellOnce_5 ?_
  refine wp_if_eq (tgt := 14) dX2_tellOnce_6 (by decide) (fun hc => ?_) (fun hc => ?_)
  · replace h := h.1 hc
    exact h
  · replace h := h.2 hc
    refine wp_aload_n dX2_tellOnce_9 rfl rfl ?_
    refine wp_iconst dX2_tellOnce_10 rfl ?_
    refine wp_invV (N := mX2_fail) [vI 3] dX2_tellOnce_11 ml_CustomValley_Reader_155 mvX2_fail rfl rfl rfl rfl rfl (Nat.le_of_ble_eq_true rfl) (Nat.le_of_ble_eq_true rfl) (by decide) (by decide) (by decide) ?_
    exact h
theorem b_X2_tellOnce_14 {x1 : Int} {σ : St} {Q : Res → St → Prop} (h : Q (.inl none) (up σ 3 0 8 (bor (σ 3 0 8) x1))) : WP mX2_tellOnce 14 [vR 3 0, vI x1] [] σ Q := by
  refine wp_aload_n dX2_tellOnce_14 rfl rfl ?_
  refine wp_dup dX2_tellOnce_15 ?_
  refine wp_getI dX2_tellOnce_16 fl_CustomValley_Reader_44 rfl rfl rfl ?_
  refine wp_iload_n dX2_tellOnce_19 rfl rfl ?_
  refine wp_ior dX2_tellOnce_20 ?_
  refine wp_putI dX2_tellOnce_21 fp_CustomValley_Reader_44 rfl rfl rfl ?_
  exact wp_ret dX2_tellOnce_24 rfl h
theorem dX2_begin_0 : decode cX2_begin 0 = .ok (.aload_n 0, 1) := by decide +kernel
theorem dX2_begin_1 : decode cX2_begin 1 = .ok (.getfield 12, 3) := by decide +kernel
theorem dX2_begin_4 : decode cX2_begin 4 = .ok (.invokevirtual 53, 3) := by decide +kernel
theorem dX2_begin_7 : decode cX2_begin 7 = .ok (.aload_n 0, 1) := by decide +kernel
theorem dX2_begin_8 : decode cX2_begin 8 = .ok (.iconst 0, 1) := by decide +kernel
theorem dX2_begin_9 : decode cX2_begin 9 = .ok (.putfield 32, 3) := by decide +kernel
theorem dX2_begin_12 : decode cX2_begin 12 = .ok (.aload_n 0, 1) := by decide +kernel
theorem dX2_begin_13 : decode cX2_begin 13 = .ok (.iconst (-1), 1) := by decide +kernel
theorem dX2_begin_14 : decode cX2_begin 14 = .ok (.putfield 18, 3) := by decide +kernel
theorem dX2_begin_17 : decode cX2_begin 17 = .ok (.aload_n 0, 1) := by decide +kernel
theorem dX2_begin_18 : decode cX2_begin 18 = .ok (.iconst 0, 1) := by decide +kernel
theorem dX2_begin_19 : decode cX2_begin 19 = .ok (.putfield 56, 3) := by decide +kernel
theorem dX2_begin_22 : decode cX2_begin 22 = .ok (.aload_n 0, 1) := by decide +kernel
theorem dX2_begin_23 : decode cX2_begin 23 = .ok (.iconst 0, 1) := by decide +kernel
theorem dX2_begin_24 : decode cX2_begin 24 = .ok (.putfield 44, 3) := by decide +kernel
theorem dX2_begin_27 : decode cX2_begin 27 = .ok (.aload_n 0, 1) := by decide +kernel
theorem dX2_begin_28 : decode cX2_begin 28 = .ok (.iconst 0, 1) := by decide +kernel
theorem dX2_begin_29 : decode cX2_begin 29 = .ok (.putfield 59, 3) := by decide +kernel
theorem dX2_begin_32 : decode cX2_begin 32 = .ok (.aload_n 0, 1) := by decide +kernel
theorem dX2_begin_33 : decode cX2_begin 33 = .ok (.iconst 0, 1) := by decide +kernel
theorem dX2_begin_34 : decode cX2_begin 34 = .ok (.putfield 62, 3) := by decide +kernel
theorem dX2_begin_37 : decode cX2_begin 37 = .ok (.aload_n 0, 1) := by decide +kernel
theorem dX2_begin_38 : decode cX2_begin 38 = .ok (.iconst 0, 1) := by decide +kernel
theorem dX2_begin_39 : decode cX2_begin 39 = .ok (.putfield 65, 3) := by decide +kernel
theorem dX2_begin_42 : decode cX2_begin 42 = .ok (.return_, 1) := by decide +kernel
theorem b_X2_begin_0  {σ : St} {Q : Res → St → Prop} (h : WP mX9_clear 0 [vR 10 2, vU] [] σ (CT mX2_begin 7 [vR 3 0] [] Q)) : WP mX2_begin 0 [vR 3 0] [] σ Q := by
  refine wp_aload_n dX2_begin_0 rfl rfl ?_
  refine wp_getR dX2_begin_1 fl_CustomValley_Reader_12 rfl rfl ?_
  refine wp_invV (N := mX9_clear) [] dX2_begin_4 ml_CustomValley_Reader_53 mvX9_clear rfl rfl rfl rfl rfl (Nat.le_of_ble_eq_true rfl) (Nat.le_of_ble_eq_true rfl) (by decide) (by decide) (by decide) ?_
  exact h
theorem b_X2_begin_7  {σ : St} {Q : Res → St → Prop} (h : Q (.inl none) (up (up (up (up (up (up (up σ 3 0 2 0) 3 0 3 (-1)) 3 0 4 0) 3 0 8 0) 3 0 9 0) 3 0 10 0) 3 0 11 0)) : WP mX2_begin 7 [vR 3 0] [] σ Q := by
  refine wp_aload_n dX2_begin_7 rfl rfl ?_
  refine wp_iconst dX2_begin_8 rfl ?_
  refine wp_putI dX2_begin_9 fp_CustomValley_Reader_32 rfl rfl rfl ?_
  refine wp_aload_n dX2_begin_12 rfl rfl ?_
  refine wp_iconst dX2_begin_13 rfl ?_
  refine wp_putI dX2_begin_14 fp_CustomValley_Reader_18 rfl rfl rfl ?_
  refine wp_aload_n dX2_begin_17 rfl rfl ?_
  refine wp_iconst dX2_begin_18 rfl ?_
  refine wp_putI dX2_begin_19 fp_CustomValley_Reader_56 rfl rfl rfl ?_
  refine wp_aload_n dX2_begin_22 rfl rfl ?_
  refine wp_iconst dX2_begin_23 rfl ?_
  refine wp_putI dX2_begin_24 fp_CustomValley_Reader_44 rfl rfl rfl ?_
  refine wp_aload_n dX2_begin_27 rfl rfl ?_
  refine wp_iconst dX2_begin_28 rfl ?_
  refine wp_putI dX2_begin_29 fp_CustomValley_Reader_59 rfl rfl rfl ?_
  refine wp_aload_n dX2_begin_32 rfl rfl ?_
  refine wp_iconst dX2_begin_33 rfl ?_
  refine wp_putI dX2_begin_34 fp_CustomValley_Reader_62 rfl rfl rfl ?_
  refine wp_aload_n dX2_begin_37 rfl rfl ?_
  refine wp_iconst dX2_begin_38 rfl ?_
  refine wp_putZ dX2_begin_39 fp_CustomValley_Reader_65 rfl rfl rfl (by decide) ?_
  exact wp_ret dX2_begin_42 rfl h
theorem dX2_nextToken_0 : decode cX2_nextToken 0 = .ok (.aload_n 0, 1) := by decide +kernel
theorem dX2_nextToken_1 : decode cX2_nextToken 1 = .ok (.getfield 32, 3) := by decide +kernel
theorem dX2_nextToken_4 : decode cX2_nextToken 4 = .ok (.ifCond .eq 4, 3) := by decide +kernel
theorem dX2_nextToken_7 : decode cX2_nextToken 7 = .ok (.return_, 1) := by decide +kernel
theorem dX2_nextToken_8 : decode cX2_nextToken 8 = .ok (.aload_n 0, 1) := by decide +kernel
theorem dX2_nextToken_9 : decode cX2_nextToken 9 = .ok (.getfield 56, 3) := by decide +kernel
theorem dX2_nextToken_12 : decode cX2_nextToken 12 = .ok (.aload_n 0, 1) := by decide +kernel
theorem dX2_nextToken_13 : decode cX2_nextToken 13 = .ok (.getfield 22, 3) := by decide +kernel
theorem dX2_nextToken_16 : decode cX2_nextToken 16 = .ok (.getfield 72, 3) := by decide +kernel
theorem dX2_nextToken_19 : decode cX2_nextToken 19 = .ok (.if_icmp .ge 33, 3) := by decide +kernel
theorem dX2_nextToken_22 : decode cX2_nextToken 22 = .ok (.aload_n 0, 1) := by decide +kernel
theorem dX2_nextToken_23 : decode cX2_nextToken 23 = .ok (.getfield 22, 3) := by decide +kernel
theorem dX2_nextToken_26 : decode cX2_nextToken 26 = .ok (.aload_n 0, 1) := by decide +kernel
theorem dX2_nextToken_27 : decode cX2_nextToken 27 = .ok (.getfield 56, 3) := by decide +kernel
theorem dX2_nextToken_30 : decode cX2_nextToken 30 = .ok (.invokevirtual 77, 3) := by decide +kernel
theorem dX2_nextToken_33 : decode cX2_nextToken 33 = .ok (.invokestatic 80, 3) := by decide +kernel
theorem dX2_nextToken_36 : decode cX2_nextToken 36 = .ok (.ifCond .eq 16, 3) := by decide +kernel
theorem dX2_nextToken_39 : decode cX2_nextToken 39 = .ok (.aload_n 0, 1) := by decide +kernel
theorem dX2_nextToken_40 : decode cX2_nextToken 40 = .ok (.dup, 1) := by decide +kernel
theorem dX2_nextToken_41 : decode cX2_nextToken 41 = .ok (.getfield 56, 3) := by decide +kernel
theorem dX2_nextToken_44 : decode cX2_nextToken 44 = .ok (.iconst 1, 1) := by decide +kernel
theorem dX2_nextToken_45 : decode cX2_nextToken 45 = .ok (.iadd, 1) := by decide +kernel
theorem dX2_nextToken_46 : decode cX2_nextToken 46 = .ok (.putfield 56, 3) := by decide +kernel
theorem dX2_nextToken_49 : decode cX2_nextToken 49 = .ok (.goto (-41), 3) := by decide +kernel
theorem dX2_nextToken_52 : decode cX2_nextToken 52 = .ok (.aload_n 0, 1) := by decide +kernel
theorem dX2_nextToken_53 : decode cX2_nextToken 53 = .ok (.aload_n 0, 1) := by decide +kernel
theorem dX2_nextToken_54 : decode cX2_nextToken 54 = .ok (.getfield 56, 3) := by decide +kernel
theorem dX2_nextToken_57 : decode cX2_nextToken 57 = .ok (.putfield 69, 3) := by decide +kernel
theorem dX2_nextToken_60 : decode cX2_nextToken 60 = .ok (.aload_n 0, 1) := by decide +kernel
theorem dX2_nextToken_61 : decode cX2_nextToken 61 = .ok (.getfield 22, 3) := by decide +kernel
theorem dX2_nextToken_64 : decode cX2_nextToken 64 = .ok (.aload_n 0, 1) := by decide +kernel
theorem dX2_nextToken_65 : decode cX2_nextToken 65 = .ok (.getfield 56, 3) := by decide +kernel
theorem dX2_nextToken_68 : decode cX2_nextToken 68 = .ok (.invokevirtual 77, 3) := by decide +kernel
theorem dX2_nextToken_71 : decode cX2_nextToken 71 = .ok (.istore_n 1, 1) := by decide +kernel
theorem dX2_nextToken_72 : decode cX2_nextToken 72 = .ok (.iload_n 1, 1) := by decide +kernel
theorem dX2_nextToken_73 : decode cX2_nextToken 73 = .ok (.iconst (-1), 1) := by decide +kernel
theorem dX2_nextToken_74 : decode cX2_nextToken 74 = .ok (.if_icmp .ne 11, 3) := by decide +kernel
theorem dX2_nextToken_77 : decode cX2_nextToken 77 = .ok (.aload_n 0, 1) := by decide +kernel
theorem dX2_nextToken_78 : decode cX2_nextToken 78 = .ok (.iconst 0, 1) := by decide +kernel
theorem dX2_nextToken_79 : decode cX2_nextToken 79 = .ok (.putfield 35, 3) := by decide +kernel
theorem dX2_nextToken_82 : decode cX2_nextToken 82 = .ok (.goto 56, 3) := by decide +kernel
theorem dX2_nextToken_85 : decode cX2_nextToken 85 = .ok (.iload_n 1, 1) := by decide +kernel
theorem dX2_nextToken_86 : decode cX2_nextToken 86 = .ok (.invokestatic 84, 3) := by decide +kernel
theorem dX2_nextToken_89 : decode cX2_nextToken 89 = .ok (.ifCond .eq 10, 3) := by decide +kernel
theorem dX2_nextToken_92 : decode cX2_nextToken 92 = .ok (.aload_n 0, 1) := by decide +kernel
theorem dX2_nextToken_93 : decode cX2_nextToken 93 = .ok (.invokevirtual 87, 3) := by decide +kernel
theorem dX2_nextToken_96 : decode cX2_nextToken 96 = .ok (.goto 42, 3) := by decide +kernel
theorem dX2_nextToken_99 : decode cX2_nextToken 99 = .ok (.iload_n 1, 1) := by decide +kernel
theorem dX2_nextToken_100 : decode cX2_nextToken 100 = .ok (.invokestatic 90, 3) := by decide +kernel
theorem dX2_nextToken_103 : decode cX2_nextToken 103 = .ok (.ifCond .eq 10, 3) := by decide +kernel
theorem dX2_nextToken_106 : decode cX2_nextToken 106 = .ok (.aload_n 0, 1) := by decide +kernel
theorem dX2_nextToken_107 : decode cX2_nextToken 107 = .ok (.invokevirtual 93, 3) := by decide +kernel
theorem dX2_nextToken_110 : decode cX2_nextToken 110 = .ok (.goto 28, 3) := by decide +kernel
theorem dX2_nextToken_113 : decode cX2_nextToken 113 = .ok (.aload_n 0, 1) := by decide +kernel
theorem dX2_nextToken_114 : decode cX2_nextToken 114 = .ok (.iload_n 1, 1) := by decide +kernel
theorem dX2_nextToken_115 : decode cX2_nextToken 115 = .ok (.bipush 59, 2) := by decide +kernel
theorem dX2_nextToken_117 : decode cX2_nextToken 117 = .ok (.if_icmp .ne 7, 3) := by decide +kernel
theorem dX2_nextToken_120 : decode cX2_nextToken 120 = .ok (.iconst 3, 1) := by decide +kernel
theorem dX2_nextToken_121 : decode cX2_nextToken 121 = .ok (.goto 4, 3) := by decide +kernel
theorem dX2_nextToken_124 : decode cX2_nextToken 124 = .ok (.iconst 4, 1) := by decide +kernel
theorem dX2_nextToken_125 : decode cX2_nextToken 125 = .ok (.putfield 35, 3) := by decide +kernel
theorem dX2_nextToken_128 : decode cX2_nextToken 128 = .ok (.aload_n 0, 1) := by decide +kernel
theorem dX2_nextToken_129 : decode cX2_nextToken 129 = .ok (.dup, 1) := by decide +kernel
theorem dX2_nextToken_130 : decode cX2_nextToken 130 = .ok (.getfield 56, 3) := by decide +kernel
theorem dX2_nextToken_133 : decode cX2_nextToken 133 = .ok (.iconst 1, 1) := by decide +kernel
theorem dX2_nextToken_134 : decode cX2_nextToken 134 = .ok (.iadd, 1) := by decide +kernel
theorem dX2_nextToken_135 : decode cX2_nextToken 135 = .ok (.putfield 56, 3) := by decide +kernel
theorem dX2_nextToken_138 : decode cX2_nextToken 138 = .ok (.return_, 1) := by decide +kernel
theorem b_X2_nextToken_0  {σ : St} {Q : Res → St → Prop} (h : (((σ 3 0 2) = 0) → (WP mX2_nextToken 8 [vR 3 0, vU] [] σ Q)) ∧ (((σ 3 0 2) ≠ 0) → (Q (.inl none) σ))) : WP mX2_nextToken 0 [vR 3 0, vU] [] σ Q := by
  refine wp_aload_n dX2_nextToken_0 rfl rfl ?_
  refine wp_getI dX2_nextToken_1 fl_CustomValley_Reader_32 rfl rfl rfl ?_
  refine wp_if_eq (tgt := 8) dX2_nextToken_4 (by decide) (fun hc => ?_) (fun hc => ?_)
  · replace h := h.1 hc
    exact h
  · replace h := h.2 hc
    exact wp_ret dX2_nextToken_7 rfl h
theorem b_X2_nextToken_8  {σ : St} {Q : Res → St → Prop} (h : (((σ 8 0 1) ≤ (σ 3 0 4)) → (WP mX2_nextToken 52 [vR 3 0, vU] [] σ Q)) ∧ (((σ 3 0 4) < (σ 8 0 1)) → (((σ 8 0 1) ≤ 700) ∧ (((¬ ((if 0 ≤ (σ 3 0 4) ∧ (σ 3 0 4) < (σ 8 0 1) then band (σ 46 0 (((σ 3 0 4)).toNat)) 255 else -1) = 32 ∨ (if 0 ≤ (σ 3 0 4) ∧ (σ 3 0 4) < (σ 8 0 1) then band (σ 46 0 (((σ 3 0 4)).toNat)) 255 else -1) = 10)) → (WP mX2_nextToken 52 [vR 3 0, vU] [] σ Q)) ∧ (((if 0 ≤ (σ 3 0 4) ∧ (σ 3 0 4) < (σ 8 0 1) then band (σ 46 0 (((σ 3 0 4)).toNat)) 255 else -1) = 32 ∨ (if 0 ≤ (σ 3 0 4) ∧ (σ 3 0 4) < (σ 8 0 1) then band (σ 46 0 (((σ 3 0 4)).toNat)) 255 else -1) = 10) → ((in32 ((σ 3 0 4) + 1)) ∧ (WP mX2_nextToken 8 [vR 3 0, vU] [] (up σ 3 0 4 ((σ 3 0 4) + 1)) Q))))))) : WP mX2_nextToken 8 [vR 3 0, vU] [] σ Q := by
  refine wp_aload_n dX2_nextToken_8 rfl rfl ?_
  refine wp_getI dX2_nextToken_9 fl_CustomValley_Reader_56 rfl rfl rfl ?_
  refine wp_aload_n dX2_nextToken_12 rfl rfl ?_
  refine wp_getR dX2_nextToken_13 fl_CustomValley_Reader_22 rfl rfl ?_
  refine wp_getI dX2_nextToken_16 fl_CustomValley_Reader_72 rfl rfl rfl ?_
  refine wp_icmp_ge (tgt := 52) dX2_nextToken_19 (by decide) (fun hc => ?_) (fun hc => ?_)
  · replace h := h.1 hc
    exact h
  · replace h := h.2 hc
    refine wp_aload_n dX2_nextToken_22 rfl rfl ?_
    refine wp_getR dX2_nextToken_23 fl_CustomValley_Reader_22 rfl rfl ?_
    refine wp_aload_n dX2_nextToken_26 rfl rfl ?_
    refine wp_getI dX2_nextToken_27 fl_CustomValley_Reader_56 rfl rfl rfl ?_
    have s2 := h.1
    replace h := h.2
    refine wp_invV (N := mX7_at) [vI (σ 3 0 4)] dX2_nextToken_30 ml_CustomValley_Reader_77 mvX7_at rfl rfl rfl rfl rfl (Nat.le_of_ble_eq_true rfl) (Nat.le_of_ble_eq_true rfl) (by decide) (by decide) (by decide) ?_
    refine pb_X7_at s2 ?_
    show WP mX2_nextToken 33 [vR 3 0, vU] [vI (if 0 ≤ (σ 3 0 4) ∧ (σ 3 0 4) < (σ 8 0 1) then band (σ 46 0 (((σ 3 0 4)).toNat)) 255 else -1)] σ Q
    refine wp_invS (N := mX2_isBlank) [vI (if 0 ≤ (σ 3 0 4) ∧ (σ 3 0 4) < (σ 8 0 1) then band (σ 46 0 (((σ 3 0 4)).toNat)) 255 else -1)] dX2_nextToken_33 ml_CustomValley_Reader_80 mvX2_isBlank rfl rfl rfl (Nat.le_of_ble_eq_true rfl) (Nat.le_of_ble_eq_true rfl) (by decide) (by decide) ?_
    refine pb_X2_isBlank (by trivial) ?_
    show WP mX2_nextToken 36 [vR 3 0, vU] [vI (b2 ((if 0 ≤ (σ 3 0 4) ∧ (σ 3 0 4) < (σ 8 0 1) then band (σ 46 0 (((σ 3 0 4)).toNat)) 255 else -1) = 32 ∨ (if 0 ≤ (σ 3 0 4) ∧ (σ 3 0 4) < (σ 8 0 1) then band (σ 46 0 (((σ 3 0 4)).toNat)) 255 else -1) = 10))] σ Q
    refine wp_if_eq (tgt := 52) dX2_nextToken_36 (by decide) (fun hc => ?_) (fun hc => ?_)
    · replace h := h.1 (b2_eq hc)
      exact h
    · replace h := h.2 (b2_ne hc)
      refine wp_aload_n dX2_nextToken_39 rfl rfl ?_
      refine wp_dup dX2_nextToken_40 ?_
      refine wp_getI dX2_nextToken_41 fl_CustomValley_Reader_56 rfl rfl rfl ?_
      refine wp_iconst dX2_nextToken_44 rfl ?_
      have s1 := h.1
      replace h := h.2
      refine wp_iadd dX2_nextToken_45 ?_ (h1 := s1.1) (h2 := s1.2)
      refine wp_putI dX2_nextToken_46 fp_CustomValley_Reader_56 rfl rfl rfl ?_
      refine wp_goto (tgt := 8) dX2_nextToken_49 (by decide) ?_
      exact h
theorem b_X2_nextToken_52  {σ : St} {Q : Res → St → Prop} (h : ((σ 8 0 1) ≤ 700) ∧ ((((if 0 ≤ (σ 3 0 4) ∧ (σ 3 0 4) < (σ 8 0 1) then band (σ 46 0 (((σ 3 0 4)).toNat)) 255 else -1) ≠ (-1)) → (((¬ (97 ≤ (if 0 ≤ (σ 3 0 4) ∧ (σ 3 0 4) < (σ 8 0 1) then band (σ 46 0 (((σ 3 0 4)).toNat)) 255 else -1) ∧ (if 0 ≤ (σ 3 0 4) ∧ (σ 3 0 4) < (σ 8 0 1) then band (σ 46 0 (((σ 3 0 4)).toNat)) 255 else -1) ≤ 122)) → (((¬ (48 ≤ (if 0 ≤ (σ 3 0 4) ∧ (σ 3 0 4) < (σ 8 0 1) then band (σ 46 0 (((σ 3 0 4)).toNat)) 255 else -1) ∧ (if 0 ≤ (σ 3 0 4) ∧ (σ 3 0 4) < (σ 8 0 1) then band (σ 46 0 (((σ 3 0 4)).toNat)) 255 else -1) ≤ 57)) → ((((if 0 ≤ (σ 3 0 4) ∧ (σ 3 0 4) < (σ 8 0 1) then band (σ 46 0 (((σ 3 0 4)).toNat)) 255 else -1) ≠ 59) → ((in32 ((σ 3 0 4) + 1)) ∧ (Q (.inl none) (up (up (up σ 3 0 6 (σ 3 0 4)) 3 0 5 4) 3 0 4 ((σ 3 0 4) + 1))))) ∧ (((if 0 ≤ (σ 3 0 4) ∧ (σ 3 0 4) < (σ 8 0 1) then band (σ 46 0 (((σ 3 0 4)).toNat)) 255 else -1) = 59) → ((in32 ((σ 3 0 4) + 1)) ∧ (Q (.inl none) (up (up (up σ 3 0 6 (σ 3 0 4)) 3 0 5 3) 3 0 4 ((σ 3 0 4) + 1))))))) ∧ ((48 ≤ (if 0 ≤ (σ 3 0 4) ∧ (σ 3 0 4) < (σ 8 0 1) then band (σ 46 0 (((σ 3 0 4)).toNat)) 255 else -1) ∧ (if 0 ≤ (σ 3 0 4) ∧ (σ 3 0 4) < (σ 8 0 1) then band (σ 46 0 (((σ 3 0 4)).toNat)) 255 else -1) ≤ 57) → (WP mX2_readNumber 0 [vR 3 0] [] (up σ 3 0 6 (σ 3 0 4)) (CT mX2_nextToken 110 [vU, vU] [] Q))))) ∧ ((97 ≤ (if 0 ≤ (σ 3 0 4) ∧ (σ 3 0 4) < (σ 8 0 1) then band (σ 46 0 (((σ 3 0 4)).toNat)) 255 else -1) ∧ (if 0 ≤ (σ 3 0 4) ∧ (σ 3 0 4) < (σ 8 0 1) then band (σ 46 0 (((σ 3 0 4)).toNat)) 255 else -1) ≤ 122) → (WP mX2_readWord 0 [vR 3 0] [] (up σ 3 0 6 (σ 3 0 4)) (CT mX2_nextToken 96 [vU, vU] [] Q))))) ∧ (((if 0 ≤ (σ 3 0 4) ∧ (σ 3 0 4) < (σ 8 0 1) then band (σ 46 0 (((σ 3 0 4)).toNat)) 255 else -1) = (-1)) → (Q (.inl none) (up (up σ 3 0 6 (σ 3 0 4)) 3 0 5 0))))) : WP mX2_nextToken 52 [vR 3 0, vU] [] σ Q := by
  refine wp_aload_n dX2_nextToken_52 rfl rfl ?_
  refine wp_aload_n dX2_nextToken_53 rfl rfl ?_
  refine wp_getI dX2_nextToken_54 fl_CustomValley_Reader_56 rfl rfl rfl ?_
  refine wp_putI dX2_nextToken_57 fp_CustomValley_Reader_69 rfl rfl rfl ?_
  refine wp_aload_n dX2_nextToken_60 rfl rfl ?_
  refine wp_getR dX2_nextToken_61 fl_CustomValley_Reader_22 rfl rfl ?_
  refine wp_aload_n dX2_nextToken_64 rfl rfl ?_
  refine wp_getI dX2_nextToken_65 fl_CustomValley_Reader_56 rfl rfl rfl ?_
  rw [show (up σ 3 0 6 (σ 3 0 4)) 3 0 4 = σ 3 0 4 from by simp [up]]
  have s3 := h.1
  replace h := h.2
  refine wp_invV (N := mX7_at) [vI (σ 3 0 4)] dX2_nextToken_68 ml_CustomValley_Reader_77 mvX7_at rfl rfl rfl rfl rfl (Nat.le_of_ble_eq_true rfl) (Nat.le_of_ble_eq_true rfl) (by decide) (by decide) (by decide) ?_
  refine pb_X7_at s3 ?_
  show WP mX2_nextToken 71 [vR 3 0, vU] [vI (if 0 ≤ (σ 3 0 4) ∧ (σ 3 0 4) < (σ 8 0 1) then band (σ 46 0 (((σ 3 0 4)).toNat)) 255 else -1)] (up σ 3 0 6 (σ 3 0 4)) Q
  refine wp_istore_n dX2_nextToken_71 rfl (by decide) rfl rfl ?_
  refine wp_iload_n dX2_nextToken_72 rfl rfl ?_
  refine wp_iconst dX2_nextToken_73 rfl ?_
  refine wp_icmp_ne (tgt := 85) dX2_nextToken_74 (by decide) (fun hc => ?_) (fun hc => ?_)
  · replace h := h.1 hc
    refine wp_iload_n dX2_nextToken_85 rfl rfl ?_
    refine wp_invS (N := mX2_isLetter) [vI (if 0 ≤ (σ 3 0 4) ∧ (σ 3 0 4) < (σ 8 0 1) then band (σ 46 0 (((σ 3 0 4)).toNat)) 255 else -1)] dX2_nextToken_86 ml_CustomValley_Reader_84 mvX2_isLetter rfl rfl rfl (Nat.le_of_ble_eq_true rfl) (Nat.le_of_ble_eq_true rfl) (by decide) (by decide) ?_
    refine pb_X2_isLetter (by trivial) ?_
    show WP mX2_nextToken 89 [vR 3 0, vI (if 0 ≤ (σ 3 0 4) ∧ (σ 3 0 4) < (σ 8 0 1) then band (σ 46 0 (((σ 3 0 4)).toNat)) 255 else -1)] [vI (b2 (97 ≤ (if 0 ≤ (σ 3 0 4) ∧ (σ 3 0 4) < (σ 8 0 1) then band (σ 46 0 (((σ 3 0 4)).toNat)) 255 else -1) ∧ (if 0 ≤ (σ 3 0 4) ∧ (σ 3 0 4) < (σ 8 0 1) then band (σ 46 0 (((σ 3 0 4)).toNat)) 255 else -1) ≤ 122))] (up σ 3 0 6 (σ 3 0 4)) Q
    refine wp_if_eq (tgt := 99) dX2_nextToken_89 (by decide) (fun hc => ?_) (fun hc => ?_)
    · replace h := h.1 (b2_eq hc)
      refine wp_iload_n dX2_nextToken_99 rfl rfl ?_
      refine wp_invS (N := mX2_isDigit) [vI (if 0 ≤ (σ 3 0 4) ∧ (σ 3 0 4) < (σ 8 0 1) then band (σ 46 0 (((σ 3 0 4)).toNat)) 255 else -1)] dX2_nextToken_100 ml_CustomValley_Reader_90 mvX2_isDigit rfl rfl rfl (Nat.le_of_ble_eq_true rfl) (Nat.le_of_ble_eq_true rfl) (by decide) (by decide) ?_
      refine pb_X2_isDigit (by trivial) ?_
      show WP mX2_nextToken 103 [vR 3 0, vI (if 0 ≤ (σ 3 0 4) ∧ (σ 3 0 4) < (σ 8 0 1) then band (σ 46 0 (((σ 3 0 4)).toNat)) 255 else -1)] [vI (b2 (48 ≤ (if 0 ≤ (σ 3 0 4) ∧ (σ 3 0 4) < (σ 8 0 1) then band (σ 46 0 (((σ 3 0 4)).toNat)) 255 else -1) ∧ (if 0 ≤ (σ 3 0 4) ∧ (σ 3 0 4) < (σ 8 0 1) then band (σ 46 0 (((σ 3 0 4)).toNat)) 255 else -1) ≤ 57))] (up σ 3 0 6 (σ 3 0 4)) Q
      refine wp_if_eq (tgt := 113) dX2_nextToken_103 (by decide) (fun hc => ?_) (fun hc => ?_)
      · replace h := h.1 (b2_eq hc)
        refine wp_aload_n dX2_nextToken_113 rfl rfl ?_
        refine wp_iload_n dX2_nextToken_114 rfl rfl ?_
        refine wp_bipush dX2_nextToken_115 rfl ?_
        refine wp_icmp_ne (tgt := 124) dX2_nextToken_117 (by decide) (fun hc => ?_) (fun hc => ?_)
        · replace h := h.1 hc
          refine wp_iconst dX2_nextToken_124 rfl ?_
          refine wp_putI dX2_nextToken_125 fp_CustomValley_Reader_35 rfl rfl rfl ?_
          refine wp_aload_n dX2_nextToken_128 rfl rfl ?_
          refine wp_dup dX2_nextToken_129 ?_
          refine wp_getI dX2_nextToken_130 fl_CustomValley_Reader_56 rfl rfl rfl ?_
          rw [show (up (up σ 3 0 6 (σ 3 0 4)) 3 0 5 4) 3 0 4 = σ 3 0 4 from by simp [up]]
          refine wp_iconst dX2_nextToken_133 rfl ?_
          have s1 := h.1
          replace h := h.2
          refine wp_iadd dX2_nextToken_134 ?_ (h1 := s1.1) (h2 := s1.2)
          refine wp_putI dX2_nextToken_135 fp_CustomValley_Reader_56 rfl rfl rfl ?_
          exact wp_ret dX2_nextToken_138 rfl h
        · replace h := h.2 hc
          refine wp_iconst dX2_nextToken_120 rfl ?_
          refine wp_goto (tgt := 125) dX2_nextToken_121 (by decide) ?_
          refine wp_putI dX2_nextToken_125 fp_CustomValley_Reader_35 rfl rfl rfl ?_
          refine wp_aload_n dX2_nextToken_128 rfl rfl ?_
          refine wp_dup dX2_nextToken_129 ?_
          refine wp_getI dX2_nextToken_130 fl_CustomValley_Reader_56 rfl rfl rfl ?_
          rw [show (up (up σ 3 0 6 (σ 3 0 4)) 3 0 5 3) 3 0 4 = σ 3 0 4 from by simp [up]]
          refine wp_iconst dX2_nextToken_133 rfl ?_
          have s2 := h.1
          replace h := h.2
          refine wp_iadd dX2_nextToken_134 ?_ (h1 := s2.1) (h2 := s2.2)
          refine wp_putI dX2_nextToken_135 fp_CustomValley_Reader_56 rfl rfl rfl ?_
          exact wp_ret dX2_nextToken_138 rfl h
      · replace h := h.2 (b2_ne hc)
        refine wp_aload_n dX2_nextToken_106 rfl rfl ?_
        refine wp_invV (N := mX2_readNumber) [] dX2_nextToken_107 ml_CustomValley_Reader_93 mvX2_readNumber rfl rfl rfl rfl rfl (Nat.le_of_ble_eq_true rfl) (Nat.le_of_ble_eq_true rfl) (by decide) (by decide) (by decide) ?_
        exact WP.mono h (ct_drop (lle_c (Or.inr rfl) (lle_c (Or.inr rfl) lle_n)))
    · replace h := h.2 (b2_ne hc)
      refine wp_aload_n dX2_nextToken_92 rfl rfl ?_
      refine wp_invV (N := mX2_readWord) [] dX2_nextToken_93 ml_CustomValley_Reader_87 mvX2_readWord rfl rfl rfl rfl rfl (Nat.le_of_ble_eq_true rfl) (Nat.le_of_ble_eq_true rfl) (by decide) (by decide) (by decide) ?_
      exact WP.mono h (ct_drop (lle_c (Or.inr rfl) (lle_c (Or.inr rfl) lle_n)))
  · replace h := h.2 hc
    refine wp_aload_n dX2_nextToken_77 rfl rfl ?_
    refine wp_iconst dX2_nextToken_78 rfl ?_
    refine wp_putI dX2_nextToken_79 fp_CustomValley_Reader_35 rfl rfl rfl ?_
    refine wp_goto (tgt := 138) dX2_nextToken_82 (by decide) ?_
    exact wp_ret dX2_nextToken_138 rfl h
theorem b_X2_nextToken_96  {σ : St} {Q : Res → St → Prop} (h : Q (.inl none) σ) : WP mX2_nextToken 96 [vU, vU] [] σ Q := by
  refine wp_goto (tgt := 138) dX2_nextToken_96 (by decide) ?_
  exact wp_ret dX2_nextToken_138 rfl h
theorem b_X2_nextToken_110  {σ : St} {Q : Res → St → Prop} (h : Q (.inl none) σ) : WP mX2_nextToken 110 [vU, vU] [] σ Q := by
  refine wp_goto (tgt := 138) dX2_nextToken_110 (by decide) ?_
  exact wp_ret dX2_nextToken_138 rfl h
theorem dX2_tellSize_0 : decode cX2_tellSize 0 = .ok (.aload_n 0, 1) := by decide +kernel
theorem dX2_tellSize_1 : decode cX2_tellSize 1 = .ok (.iload_n 1, 1) := by decide +kernel
theorem dX2_tellSize_2 : decode cX2_tellSize 2 = .ok (.invokevirtual 139, 3) := by decide +kernel
theorem dX2_tellSize_5 : decode cX2_tellSize 5 = .ok (.aload_n 0, 1) := by decide +kernel
theorem dX2_tellSize_6 : decode cX2_tellSize 6 = .ok (.getfield 65, 3) := by decide +kernel
theorem dX2_tellSize_9 : decode cX2_tellSize 9 = .ok (.ifCond .eq 8, 3) := by decide +kernel
theorem dX2_tellSize_12 : decode cX2_tellSize 12 = .ok (.aload_n 0, 1) := by decide +kernel
theorem dX2_tellSize_13 : decode cX2_tellSize 13 = .ok (.iconst 4, 1) := by decide +kernel
theorem dX2_tellSize_14 : decode cX2_tellSize 14 = .ok (.invokevirtual 155, 3) := by decide +kernel
theorem dX2_tellSize_17 : decode cX2_tellSize 17 = .ok (.return_, 1) := by decide +kernel
theorem b_X2_tellSize_0 {x1 : Int} {σ : St} {Q : Res → St → Prop} (h : WP mX2_tellOnce 0 [vR 3 0, vI x1] [] σ (CT mX2_tellSize 5 [vR 3 0, vU] [] Q)) : WP mX2_tellSize 0 [vR 3 0, vI x1] [] σ Q := by
  refine wp_aload_n dX2_tellSize_0 rfl rfl ?_
  refine wp_iload_n dX2_tellSize_1 rfl rfl ?_
  refine wp_invV (N := mX2_tellOnce) [vI x1] dX2_tellSize_2 ml_CustomValley_Reader_139 mvX2_tellOnce rfl rfl rfl rfl rfl (Nat.le_of_ble_eq_true rfl) (Nat.le_of_ble_eq_true rfl) (by decide) (by decide) (by decide) ?_
  exact WP.mono h (ct_drop (lle_c (Or.inl rfl) (lle_c (Or.inr rfl) lle_n)))
theorem b_X2_tellSize_5  {σ : St} {Q : Res → St → Prop} (h : (((σ 3 0 11) = 0) → (WP mX2_tellSize 17 [vU, vU] [] σ Q)) ∧ (((σ 3 0 11) ≠ 0) → (WP mX2_fail 0 [vR 3 0, vI 4] [] σ (CT mX2_tellSize 17 [vU, vU] [] Q)))) : WP mX2_tellSize 5 [vR 3 0, vU] [] σ Q := by
  refine wp_aload_n dX2_tellSize_5 rfl rfl ?_
  refine wp_getI dX2_tellSize_6 fl_CustomValley_Reader_65 rfl rfl rfl ?_
  refine wp_if_eq (tgt := 17) dX2_tellSize_9 (by decide) (fun hc => ?_) (fun hc => ?_)
  · replace h := h.1 hc
    exact wp_drop (als' := [vU, vU]) (lle_c (Or.inr rfl) (lle_c (Or.inl rfl) lle_n)) h
  · replace h := h.2 hc
    refine wp_aload_n dX2_tellSize_12 rfl rfl ?_
    refine wp_iconst dX2_tellSize_13 rfl ?_
    refine wp_invV (N := mX2_fail) [vI 4] dX2_tellSize_14 ml_CustomValley_Reader_155 mvX2_fail rfl rfl rfl rfl rfl (Nat.le_of_ble_eq_true rfl) (Nat.le_of_ble_eq_true rfl) (by decide) (by decide) (by decide) ?_
    exact WP.mono h (ct_drop (lle_c (Or.inr rfl) (lle_c (Or.inl rfl) lle_n)))
theorem b_X2_tellSize_17  {σ : St} {Q : Res → St → Prop} (h : Q (.inl none) σ) : WP mX2_tellSize 17 [vU, vU] [] σ Q := by
  exact wp_ret dX2_tellSize_17 rfl h
theorem dX2_nextWithin_0 : decode cX2_nextWithin 0 = .ok (.aload_n 0, 1) := by decide +kernel
theorem dX2_nextWithin_1 : decode cX2_nextWithin 1 = .ok (.invokevirtual 29, 3) := by decide +kernel
theorem dX2_nextWithin_4 : decode cX2_nextWithin 4 = .ok (.aload_n 0, 1) := by decide +kernel
theorem dX2_nextWithin_5 : decode cX2_nextWithin 5 = .ok (.iload_n 1, 1) := by decide +kernel
theorem dX2_nextWithin_6 : decode cX2_nextWithin 6 = .ok (.iload_n 2, 1) := by decide +kernel
theorem dX2_nextWithin_7 : decode cX2_nextWithin 7 = .ok (.invokevirtual 161, 3) := by decide +kernel
theorem dX2_nextWithin_10 : decode cX2_nextWithin 10 = .ok (.ireturn, 1) := by decide +kernel
theorem b_X2_nextWithin_0 {x1 : Int} {x2 : Int} {σ : St} {Q : Res → St → Prop} (h : WP mX2_nextToken 0 [vR 3 0, vU] [] σ (CT mX2_nextWithin 4 [vR 3 0, vI x1, vI x2] [] Q)) : WP mX2_nextWithin 0 [vR 3 0, vI x1, vI x2] [] σ Q := by
  refine wp_aload_n dX2_nextWithin_0 rfl rfl ?_
  refine wp_invV (N := mX2_nextToken) [] dX2_nextWithin_1 ml_CustomValley_Reader_29 mvX2_nextToken rfl rfl rfl rfl rfl (Nat.le_of_ble_eq_true rfl) (Nat.le_of_ble_eq_true rfl) (by decide) (by decide) (by decide) ?_
  exact h
theorem b_X2_nextWithin_4 {x1 : Int} {x2 : Int} {σ : St} {Q : Res → St → Prop} (h : WP mX2_numberWithin 0 [vR 3 0, vI x1, vI x2] [] σ (CT mX2_nextWithin 10 [vU, vU, vU] [] Q)) : WP mX2_nextWithin 4 [vR 3 0, vI x1, vI x2] [] σ Q := by
  refine wp_aload_n dX2_nextWithin_4 rfl rfl ?_
  refine wp_iload_n dX2_nextWithin_5 rfl rfl ?_
  refine wp_iload_n dX2_nextWithin_6 rfl rfl ?_
  refine wp_invV (N := mX2_numberWithin) [vI x1, vI x2] dX2_nextWithin_7 ml_CustomValley_Reader_161 mvX2_numberWithin rfl rfl rfl rfl rfl (Nat.le_of_ble_eq_true rfl) (Nat.le_of_ble_eq_true rfl) (by decide) (by decide) (by decide) ?_
  exact WP.mono h (ct_drop (lle_c (Or.inr rfl) (lle_c (Or.inr rfl) (lle_c (Or.inr rfl) lle_n))))
theorem b_X2_nextWithin_10 {t0 : Int} {σ : St} {Q : Res → St → Prop} (h : Q (.inl (some (vI t0))) σ) : WP mX2_nextWithin 10 [vU, vU, vU] [vI t0] σ Q := by
  exact wp_iret dX2_nextWithin_10 rfl h
theorem dX2_readHabits_0 : decode cX2_readHabits 0 = .ok (.aload_n 0, 1) := by decide +kernel
theorem dX2_readHabits_1 : decode cX2_readHabits 1 = .ok (.iconst 2, 1) := by decide +kernel
theorem dX2_readHabits_2 : decode cX2_readHabits 2 = .ok (.invokevirtual 165, 3) := by decide +kernel
theorem dX2_readHabits_5 : decode cX2_readHabits 5 = .ok (.aload_n 0, 1) := by decide +kernel
theorem dX2_readHabits_6 : decode cX2_readHabits 6 = .ok (.iconst 2, 1) := by decide +kernel
theorem dX2_readHabits_7 : decode cX2_readHabits 7 = .ok (.iconst 4, 1) := by decide +kernel
theorem dX2_readHabits_8 : decode cX2_readHabits 8 = .ok (.invokevirtual 168, 3) := by decide +kernel
theorem dX2_readHabits_11 : decode cX2_readHabits 11 = .ok (.istore_n 1, 1) := by decide +kernel
theorem dX2_readHabits_12 : decode cX2_readHabits 12 = .ok (.iload_n 1, 1) := by decide +kernel
theorem dX2_readHabits_13 : decode cX2_readHabits 13 = .ok (.aload_n 0, 1) := by decide +kernel
theorem dX2_readHabits_14 : decode cX2_readHabits 14 = .ok (.getfield 12, 3) := by decide +kernel
theorem dX2_readHabits_17 : decode cX2_readHabits 17 = .ok (.getfield 177, 3) := by decide +kernel
theorem dX2_readHabits_20 : decode cX2_readHabits 20 = .ok (.invokestatic 173, 3) := by decide +kernel
theorem dX2_readHabits_23 : decode cX2_readHabits 23 = .ok (.ifCond .eq 11, 3) := by decide +kernel
theorem dX2_readHabits_26 : decode cX2_readHabits 26 = .ok (.aload_n 0, 1) := by decide +kernel
theorem dX2_readHabits_27 : decode cX2_readHabits 27 = .ok (.iconst 2, 1) := by decide +kernel
theorem dX2_readHabits_28 : decode cX2_readHabits 28 = .ok (.invokevirtual 155, 3) := by decide +kernel
theorem dX2_readHabits_31 : decode cX2_readHabits 31 = .ok (.goto 11, 3) := by decide +kernel
theorem dX2_readHabits_34 : decode cX2_readHabits 34 = .ok (.aload_n 0, 1) := by decide +kernel
theorem dX2_readHabits_35 : decode cX2_readHabits 35 = .ok (.getfield 12, 3) := by decide +kernel
theorem dX2_readHabits_38 : decode cX2_readHabits 38 = .ok (.iload_n 1, 1) := by decide +kernel
theorem dX2_readHabits_39 : decode cX2_readHabits 39 = .ok (.putfield 171, 3) := by decide +kernel
theorem dX2_readHabits_42 : decode cX2_readHabits 42 = .ok (.return_, 1) := by decide +kernel
theorem b_X2_readHabits_0  {σ : St} {Q : Res → St → Prop} (h : WP mX2_tellSize 0 [vR 3 0, vI 2] [] σ (CT mX2_readHabits 5 [vR 3 0, vU] [] Q)) : WP mX2_readHabits 0 [vR 3 0, vU] [] σ Q := by
  refine wp_aload_n dX2_readHabits_0 rfl rfl ?_
  refine wp_iconst dX2_readHabits_1 rfl ?_
  refine wp_invV (N := mX2_tellSize) [vI 2] dX2_readHabits_2 ml_CustomValley_Reader_165 mvX2_tellSize rfl rfl rfl rfl rfl (Nat.le_of_ble_eq_true rfl) (Nat.le_of_ble_eq_true rfl) (by decide) (by decide) (by decide) ?_
  exact h
theorem b_X2_readHabits_5  {σ : St} {Q : Res → St → Prop} (h : WP mX2_nextWithin 0 [vR 3 0, vI 2, vI 4] [] σ (CT mX2_readHabits 11 [vR 3 0, vU] [] Q)) : WP mX2_readHabits 5 [vR 3 0, vU] [] σ Q := by
  refine wp_aload_n dX2_readHabits_5 rfl rfl ?_
  refine wp_iconst dX2_readHabits_6 rfl ?_
  refine wp_iconst dX2_readHabits_7 rfl ?_
  refine wp_invV (N := mX2_nextWithin) [vI 2, vI 4] dX2_readHabits_8 ml_CustomValley_Reader_168 mvX2_nextWithin rfl rfl rfl rfl rfl (Nat.le_of_ble_eq_true rfl) (Nat.le_of_ble_eq_true rfl) (by decide) (by decide) (by decide) ?_
  exact h
theorem b_X2_readHabits_11 {t0 : Int} {σ : St} {Q : Res → St → Prop} (h : WP mX2_tooMany 0 [vI t0, vI (σ 10 2 0), vU, vU] [] σ (CT mX2_readHabits 23 [vR 3 0, vI t0] [] Q)) : WP mX2_readHabits 11 [vR 3 0, vU] [vI t0] σ Q := by
  refine wp_istore_n dX2_readHabits_11 rfl (by decide) rfl rfl ?_
  refine wp_iload_n dX2_readHabits_12 rfl rfl ?_
  refine wp_aload_n dX2_readHabits_13 rfl rfl ?_
  refine wp_getR dX2_readHabits_14 fl_CustomValley_Reader_12 rfl rfl ?_
  refine wp_getI dX2_readHabits_17 fl_CustomValley_Reader_177 rfl rfl rfl ?_
  refine wp_invS (N := mX2_tooMany) [vI t0, vI (σ 10 2 0)] dX2_readHabits_20 ml_CustomValley_Reader_173 mvX2_tooMany rfl rfl rfl (Nat.le_of_ble_eq_true rfl) (Nat.le_of_ble_eq_true rfl) (by decide) (by decide) ?_
  exact h
theorem b_X2_readHabits_23 {x1 : Int} {t0 : Int} {σ : St} {Q : Res → St → Prop} (h : ((t0 = 0) → (Q (.inl none) (up σ 10 2 1 x1))) ∧ ((t0 ≠ 0) → (WP mX2_fail 0 [vR 3 0, vI 2] [] σ (CT mX2_readHabits 31 [vU, vU] [] Q)))) : WP mX2_readHabits 23 [vR 3 0, vI x1] [vI t0] σ Q := by
  refine wp_if_eq (tgt := 34) dX2_readHabits_23 (by decide) (fun hc => ?_) (fun hc => ?_)
  · replace h := h.1 hc
    refine wp_aload_n dX2_readHabits_34 rfl rfl ?_
    refine wp_getR dX2_readHabits_35 fl_CustomValley_Reader_12 rfl rfl ?_
    refine wp_iload_n dX2_readHabits_38 rfl rfl ?_
    refine wp_putI dX2_readHabits_39 fp_CustomValley_Reader_171 rfl rfl rfl ?_
    exact wp_ret dX2_readHabits_42 rfl h
  · replace h := h.2 hc
    refine wp_aload_n dX2_readHabits_26 rfl rfl ?_
    refine wp_iconst dX2_readHabits_27 rfl ?_
    refine wp_invV (N := mX2_fail) [vI 2] dX2_readHabits_28 ml_CustomValley_Reader_155 mvX2_fail rfl rfl rfl rfl rfl (Nat.le_of_ble_eq_true rfl) (Nat.le_of_ble_eq_true rfl) (by decide) (by decide) (by decide) ?_
    exact WP.mono h (ct_drop (lle_c (Or.inr rfl) (lle_c (Or.inr rfl) lle_n)))
theorem b_X2_readHabits_31  {σ : St} {Q : Res → St → Prop} (h : Q (.inl none) σ) : WP mX2_readHabits 31 [vU, vU] [] σ Q := by
  refine wp_goto (tgt := 42) dX2_readHabits_31 (by decide) ?_
  exact wp_ret dX2_readHabits_42 rfl h
theorem dX2_readKeeps_0 : decode cX2_readKeeps 0 = .ok (.aload_n 0, 1) := by decide +kernel
theorem dX2_readKeeps_1 : decode cX2_readKeeps 1 = .ok (.iconst 1, 1) := by decide +kernel
theorem dX2_readKeeps_2 : decode cX2_readKeeps 2 = .ok (.putfield 65, 3) := by decide +kernel
theorem dX2_readKeeps_5 : decode cX2_readKeeps 5 = .ok (.aload_n 0, 1) := by decide +kernel
theorem dX2_readKeeps_6 : decode cX2_readKeeps 6 = .ok (.iconst 0, 1) := by decide +kernel
theorem dX2_readKeeps_7 : decode cX2_readKeeps 7 = .ok (.aload_n 0, 1) := by decide +kernel
theorem dX2_readKeeps_8 : decode cX2_readKeeps 8 = .ok (.getfield 12, 3) := by decide +kernel
theorem dX2_readKeeps_11 : decode cX2_readKeeps 11 = .ok (.getfield 177, 3) := by decide +kernel
theorem dX2_readKeeps_14 : decode cX2_readKeeps 14 = .ok (.iconst 1, 1) := by decide +kernel
theorem dX2_readKeeps_15 : decode cX2_readKeeps 15 = .ok (.isub, 1) := by decide +kernel
theorem dX2_readKeeps_16 : decode cX2_readKeeps 16 = .ok (.invokevirtual 168, 3) := by decide +kernel
theorem dX2_readKeeps_19 : decode cX2_readKeeps 19 = .ok (.istore_n 1, 1) := by decide +kernel
theorem dX2_readKeeps_20 : decode cX2_readKeeps 20 = .ok (.aload_n 0, 1) := by decide +kernel
theorem dX2_readKeeps_21 : decode cX2_readKeeps 21 = .ok (.getfield 12, 3) := by decide +kernel
theorem dX2_readKeeps_24 : decode cX2_readKeeps 24 = .ok (.getfield 193, 3) := by decide +kernel
theorem dX2_readKeeps_27 : decode cX2_readKeeps 27 = .ok (.iload_n 1, 1) := by decide +kernel
theorem dX2_readKeeps_28 : decode cX2_readKeeps 28 = .ok (.iaload, 1) := by decide +kernel
theorem dX2_readKeeps_29 : decode cX2_readKeeps 29 = .ok (.iconst (-1), 1) := by decide +kernel
theorem dX2_readKeeps_30 : decode cX2_readKeeps 30 = .ok (.if_icmp .eq 8, 3) := by decide +kernel
theorem dX2_readKeeps_33 : decode cX2_readKeeps 33 = .ok (.aload_n 0, 1) := by decide +kernel
theorem dX2_readKeeps_34 : decode cX2_readKeeps 34 = .ok (.iconst 3, 1) := by decide +kernel
theorem dX2_readKeeps_35 : decode cX2_readKeeps 35 = .ok (.invokevirtual 155, 3) := by decide +kernel
theorem dX2_readKeeps_38 : decode cX2_readKeeps 38 = .ok (.aload_n 0, 1) := by decide +kernel
theorem dX2_readKeeps_39 : decode cX2_readKeeps 39 = .ok (.getfield 12, 3) := by decide +kernel
theorem dX2_readKeeps_42 : decode cX2_readKeeps 42 = .ok (.getfield 193, 3) := by decide +kernel
theorem dX2_readKeeps_45 : decode cX2_readKeeps 45 = .ok (.iload_n 1, 1) := by decide +kernel
theorem dX2_readKeeps_46 : decode cX2_readKeeps 46 = .ok (.aload_n 0, 1) := by decide +kernel
theorem dX2_readKeeps_47 : decode cX2_readKeeps 47 = .ok (.iconst 0, 1) := by decide +kernel
theorem dX2_readKeeps_48 : decode cX2_readKeeps 48 = .ok (.aload_n 0, 1) := by decide +kernel
theorem dX2_readKeeps_49 : decode cX2_readKeeps 49 = .ok (.getfield 12, 3) := by decide +kernel
theorem dX2_readKeeps_52 : decode cX2_readKeeps 52 = .ok (.getfield 171, 3) := by decide +kernel
theorem dX2_readKeeps_55 : decode cX2_readKeeps 55 = .ok (.iconst 1, 1) := by decide +kernel
theorem dX2_readKeeps_56 : decode cX2_readKeeps 56 = .ok (.isub, 1) := by decide +kernel
theorem dX2_readKeeps_57 : decode cX2_readKeeps 57 = .ok (.invokevirtual 168, 3) := by decide +kernel
theorem dX2_readKeeps_60 : decode cX2_readKeeps 60 = .ok (.iastore, 1) := by decide +kernel
theorem dX2_readKeeps_61 : decode cX2_readKeeps 61 = .ok (.return_, 1) := by decide +kernel
theorem b_X2_readKeeps_0  {σ : St} {Q : Res → St → Prop} (h : (in32 ((σ 10 2 0) - 1)) ∧ (WP mX2_nextWithin 0 [vR 3 0, vI 0, vI ((σ 10 2 0) - 1)] [] (up σ 3 0 11 1) (CT mX2_readKeeps 19 [vR 3 0, vU] [] Q))) : WP mX2_readKeeps 0 [vR 3 0, vU] [] σ Q := by
  refine wp_aload_n dX2_readKeeps_0 rfl rfl ?_
  refine wp_iconst dX2_readKeeps_1 rfl ?_
  refine wp_putZ dX2_readKeeps_2 fp_CustomValley_Reader_65 rfl rfl rfl (by decide) ?_
  refine wp_aload_n dX2_readKeeps_5 rfl rfl ?_
  refine wp_iconst dX2_readKeeps_6 rfl ?_
  refine wp_aload_n dX2_readKeeps_7 rfl rfl ?_
  refine wp_getR dX2_readKeeps_8 fl_CustomValley_Reader_12 rfl rfl ?_
  refine wp_getI dX2_readKeeps_11 fl_CustomValley_Reader_177 rfl rfl rfl ?_
  rw [show (up σ 3 0 11 1) 10 2 0 = σ 10 2 0 from by simp [up]]
  refine wp_iconst dX2_readKeeps_14 rfl ?_
  have s1 := h.1
  replace h := h.2
  refine wp_isub dX2_readKeeps_15 ?_ (h1 := s1.1) (h2 := s1.2)
  refine wp_invV (N := mX2_nextWithin) [vI 0, vI ((σ 10 2 0) - 1)] dX2_readKeeps_16 ml_CustomValley_Reader_168 mvX2_nextWithin rfl rfl rfl rfl rfl (Nat.le_of_ble_eq_true rfl) (Nat.le_of_ble_eq_true rfl) (by decide) (by decide) (by decide) ?_
  exact h
theorem b_X2_readKeeps_19 {t0 : Int} {σ : St} {Q : Res → St → Prop} (h : (0 ≤ t0 ∧ t0 < 10) ∧ ((((σ 57 2 t0.toNat) = (-1)) → (WP mX2_readKeeps 38 [vR 3 0, vI t0] [] σ Q)) ∧ (((σ 57 2 t0.toNat) ≠ (-1)) → (WP mX2_fail 0 [vR 3 0, vI 3] [] σ (CT mX2_readKeeps 38 [vR 3 0, vI t0] [] Q))))) : WP mX2_readKeeps 19 [vR 3 0, vU] [vI t0] σ Q := by
  refine wp_istore_n dX2_readKeeps_19 rfl (by decide) rfl rfl ?_
  refine wp_aload_n dX2_readKeeps_20 rfl rfl ?_
  refine wp_getR dX2_readKeeps_21 fl_CustomValley_Reader_12 rfl rfl ?_
  refine wp_getR dX2_readKeeps_24 fl_CustomValley_Reader_193 rfl rfl ?_
  refine wp_iload_n dX2_readKeeps_27 rfl rfl ?_
  have s1 := h.1
  replace h := h.2
  refine wp_iaload dX2_readKeeps_28 rfl rfl s1.1 s1.2 ?_
  refine wp_iconst dX2_readKeeps_29 rfl ?_
  refine wp_icmp_eq (tgt := 38) dX2_readKeeps_30 (by decide) (fun hc => ?_) (fun hc => ?_)
  · replace h := h.1 hc
    exact h
  · replace h := h.2 hc
    refine wp_aload_n dX2_readKeeps_33 rfl rfl ?_
    refine wp_iconst dX2_readKeeps_34 rfl ?_
    refine wp_invV (N := mX2_fail) [vI 3] dX2_readKeeps_35 ml_CustomValley_Reader_155 mvX2_fail rfl rfl rfl rfl rfl (Nat.le_of_ble_eq_true rfl) (Nat.le_of_ble_eq_true rfl) (by decide) (by decide) (by decide) ?_
    exact h
theorem b_X2_readKeeps_38 {x1 : Int} {σ : St} {Q : Res → St → Prop} (h : (in32 ((σ 10 2 1) - 1)) ∧ (WP mX2_nextWithin 0 [vR 3 0, vI 0, vI ((σ 10 2 1) - 1)] [] σ (CT mX2_readKeeps 60 [vU, vU] [vI x1, vR 57 2] Q))) : WP mX2_readKeeps 38 [vR 3 0, vI x1] [] σ Q := by
  refine wp_aload_n dX2_readKeeps_38 rfl rfl ?_
  refine wp_getR dX2_readKeeps_39 fl_CustomValley_Reader_12 rfl rfl ?_
  refine wp_getR dX2_readKeeps_42 fl_CustomValley_Reader_193 rfl rfl ?_
  refine wp_iload_n dX2_readKeeps_45 rfl rfl ?_
  refine wp_aload_n dX2_readKeeps_46 rfl rfl ?_
  refine wp_iconst dX2_readKeeps_47 rfl ?_
  refine wp_aload_n dX2_readKeeps_48 rfl rfl ?_
  refine wp_getR dX2_readKeeps_49 fl_CustomValley_Reader_12 rfl rfl ?_
  refine wp_getI dX2_readKeeps_52 fl_CustomValley_Reader_171 rfl rfl rfl ?_
  refine wp_iconst dX2_readKeeps_55 rfl ?_
  have s1 := h.1
  replace h := h.2
  refine wp_isub dX2_readKeeps_56 ?_ (h1 := s1.1) (h2 := s1.2)
  refine wp_invV (N := mX2_nextWithin) [vI 0, vI ((σ 10 2 1) - 1)] dX2_readKeeps_57 ml_CustomValley_Reader_168 mvX2_nextWithin rfl rfl rfl rfl rfl (Nat.le_of_ble_eq_true rfl) (Nat.le_of_ble_eq_true rfl) (by decide) (by decide) (by decide) ?_
  exact WP.mono h (ct_drop (lle_c (Or.inr rfl) (lle_c (Or.inr rfl) lle_n)))
theorem b_X2_readKeeps_60 {t0 : Int} {t1 : Int} {σ : St} {Q : Res → St → Prop} (h : (0 ≤ t1 ∧ t1 < 10) ∧ (Q (.inl none) (up σ 57 2 t1.toNat t0))) : WP mX2_readKeeps 60 [vU, vU] [vI t0, vI t1, vR 57 2] σ Q := by
  have s1 := h.1
  replace h := h.2
  refine wp_iastore dX2_readKeeps_60 rfl rfl s1.1 s1.2 ?_
  exact wp_ret dX2_readKeeps_61 rfl h
theorem dX2_readMeets_0 : decode cX2_readMeets 0 = .ok (.aload_n 0, 1) := by decide +kernel
theorem dX2_readMeets_1 : decode cX2_readMeets 1 = .ok (.iconst 1, 1) := by decide +kernel
theorem dX2_readMeets_2 : decode cX2_readMeets 2 = .ok (.putfield 65, 3) := by decide +kernel
theorem dX2_readMeets_5 : decode cX2_readMeets 5 = .ok (.aload_n 0, 1) := by decide +kernel
theorem dX2_readMeets_6 : decode cX2_readMeets 6 = .ok (.dup, 1) := by decide +kernel
theorem dX2_readMeets_7 : decode cX2_readMeets 7 = .ok (.getfield 44, 3) := by decide +kernel
theorem dX2_readMeets_10 : decode cX2_readMeets 10 = .ok (.bipush 16, 2) := by decide +kernel
theorem dX2_readMeets_12 : decode cX2_readMeets 12 = .ok (.ior, 1) := by decide +kernel
theorem dX2_readMeets_13 : decode cX2_readMeets 13 = .ok (.putfield 44, 3) := by decide +kernel
theorem dX2_readMeets_16 : decode cX2_readMeets 16 = .ok (.aload_n 0, 1) := by decide +kernel
theorem dX2_readMeets_17 : decode cX2_readMeets 17 = .ok (.invokevirtual 29, 3) := by decide +kernel
theorem dX2_readMeets_20 : decode cX2_readMeets 20 = .ok (.iconst 0, 1) := by decide +kernel
theorem dX2_readMeets_21 : decode cX2_readMeets 21 = .ok (.istore_n 1, 1) := by decide +kernel
theorem dX2_readMeets_22 : decode cX2_readMeets 22 = .ok (.iload_n 1, 1) := by decide +kernel
theorem dX2_readMeets_23 : decode cX2_readMeets 23 = .ok (.sipush 700, 3) := by decide +kernel
theorem dX2_readMeets_26 : decode cX2_readMeets 26 = .ok (.if_icmp .ge 115, 3) := by decide +kernel
theorem dX2_readMeets_29 : decode cX2_readMeets 29 = .ok (.aload_n 0, 1) := by decide +kernel
theorem dX2_readMeets_30 : decode cX2_readMeets 30 = .ok (.getfield 32, 3) := by decide +kernel
theorem dX2_readMeets_33 : decode cX2_readMeets 33 = .ok (.ifCond .ne 108, 3) := by decide +kernel
theorem dX2_readMeets_36 : decode cX2_readMeets 36 = .ok (.aload_n 0, 1) := by decide +kernel
theorem dX2_readMeets_37 : decode cX2_readMeets 37 = .ok (.iconst 0, 1) := by decide +kernel
theorem dX2_readMeets_38 : decode cX2_readMeets 38 = .ok (.aload_n 0, 1) := by decide +kernel
theorem dX2_readMeets_39 : decode cX2_readMeets 39 = .ok (.getfield 12, 3) := by decide +kernel
theorem dX2_readMeets_42 : decode cX2_readMeets 42 = .ok (.getfield 177, 3) := by decide +kernel
theorem dX2_readMeets_45 : decode cX2_readMeets 45 = .ok (.iconst 1, 1) := by decide +kernel
theorem dX2_readMeets_46 : decode cX2_readMeets 46 = .ok (.isub, 1) := by decide +kernel
theorem dX2_readMeets_47 : decode cX2_readMeets 47 = .ok (.invokevirtual 161, 3) := by decide +kernel
theorem dX2_readMeets_50 : decode cX2_readMeets 50 = .ok (.istore_n 2, 1) := by decide +kernel
theorem dX2_readMeets_51 : decode cX2_readMeets 51 = .ok (.aload_n 0, 1) := by decide +kernel
theorem dX2_readMeets_52 : decode cX2_readMeets 52 = .ok (.iconst 0, 1) := by decide +kernel
theorem dX2_readMeets_53 : decode cX2_readMeets 53 = .ok (.aload_n 0, 1) := by decide +kernel
theorem dX2_readMeets_54 : decode cX2_readMeets 54 = .ok (.getfield 12, 3) := by decide +kernel
theorem dX2_readMeets_57 : decode cX2_readMeets 57 = .ok (.getfield 177, 3) := by decide +kernel
theorem dX2_readMeets_60 : decode cX2_readMeets 60 = .ok (.iconst 1, 1) := by decide +kernel
theorem dX2_readMeets_61 : decode cX2_readMeets 61 = .ok (.isub, 1) := by decide +kernel
theorem dX2_readMeets_62 : decode cX2_readMeets 62 = .ok (.invokevirtual 168, 3) := by decide +kernel
theorem dX2_readMeets_65 : decode cX2_readMeets 65 = .ok (.istore_n 3, 1) := by decide +kernel
theorem dX2_readMeets_66 : decode cX2_readMeets 66 = .ok (.iload_n 2, 1) := by decide +kernel
theorem dX2_readMeets_67 : decode cX2_readMeets 67 = .ok (.iload_n 3, 1) := by decide +kernel
theorem dX2_readMeets_68 : decode cX2_readMeets 68 = .ok (.if_icmp .eq 19, 3) := by decide +kernel
theorem dX2_readMeets_71 : decode cX2_readMeets 71 = .ok (.aload_n 0, 1) := by decide +kernel
theorem dX2_readMeets_72 : decode cX2_readMeets 72 = .ok (.getfield 12, 3) := by decide +kernel
theorem dX2_readMeets_75 : decode cX2_readMeets 75 = .ok (.getfield 183, 3) := by decide +kernel
theorem dX2_readMeets_78 : decode cX2_readMeets 78 = .ok (.iload_n 2, 1) := by decide +kernel
theorem dX2_readMeets_79 : decode cX2_readMeets 79 = .ok (.iaload, 1) := by decide +kernel
theorem dX2_readMeets_80 : decode cX2_readMeets 80 = .ok (.iload_n 3, 1) := by decide +kernel
theorem dX2_readMeets_81 : decode cX2_readMeets 81 = .ok (.ishr, 1) := by decide +kernel
theorem dX2_readMeets_82 : decode cX2_readMeets 82 = .ok (.iconst 1, 1) := by decide +kernel
theorem dX2_readMeets_83 : decode cX2_readMeets 83 = .ok (.iand, 1) := by decide +kernel
theorem dX2_readMeets_84 : decode cX2_readMeets 84 = .ok (.ifCond .eq 8, 3) := by decide +kernel
theorem dX2_readMeets_87 : decode cX2_readMeets 87 = .ok (.aload_n 0, 1) := by decide +kernel
theorem dX2_readMeets_88 : decode cX2_readMeets 88 = .ok (.iconst 3, 1) := by decide +kernel
theorem dX2_readMeets_89 : decode cX2_readMeets 89 = .ok (.invokevirtual 155, 3) := by decide +kernel
theorem dX2_readMeets_92 : decode cX2_readMeets 92 = .ok (.aload_n 0, 1) := by decide +kernel
theorem dX2_readMeets_93 : decode cX2_readMeets 93 = .ok (.getfield 12, 3) := by decide +kernel
theorem dX2_readMeets_96 : decode cX2_readMeets 96 = .ok (.getfield 183, 3) := by decide +kernel
theorem dX2_readMeets_99 : decode cX2_readMeets 99 = .ok (.iload_n 2, 1) := by decide +kernel
theorem dX2_readMeets_100 : decode cX2_readMeets 100 = .ok (.dup2, 1) := by decide +kernel
theorem dX2_readMeets_101 : decode cX2_readMeets 101 = .ok (.iaload, 1) := by decide +kernel
theorem dX2_readMeets_102 : decode cX2_readMeets 102 = .ok (.iconst 1, 1) := by decide +kernel
theorem dX2_readMeets_103 : decode cX2_readMeets 103 = .ok (.iload_n 3, 1) := by decide +kernel
theorem dX2_readMeets_104 : decode cX2_readMeets 104 = .ok (.ishl, 1) := by decide +kernel
theorem dX2_readMeets_105 : decode cX2_readMeets 105 = .ok (.ior, 1) := by decide +kernel
theorem dX2_readMeets_106 : decode cX2_readMeets 106 = .ok (.iastore, 1) := by decide +kernel
theorem dX2_readMeets_107 : decode cX2_readMeets 107 = .ok (.aload_n 0, 1) := by decide +kernel
theorem dX2_readMeets_108 : decode cX2_readMeets 108 = .ok (.getfield 12, 3) := by decide +kernel
theorem dX2_readMeets_111 : decode cX2_readMeets 111 = .ok (.getfield 183, 3) := by decide +kernel
theorem dX2_readMeets_114 : decode cX2_readMeets 114 = .ok (.iload_n 3, 1) := by decide +kernel
theorem dX2_readMeets_115 : decode cX2_readMeets 115 = .ok (.dup2, 1) := by decide +kernel
theorem dX2_readMeets_116 : decode cX2_readMeets 116 = .ok (.iaload, 1) := by decide +kernel
theorem dX2_readMeets_117 : decode cX2_readMeets 117 = .ok (.iconst 1, 1) := by decide +kernel
theorem dX2_readMeets_118 : decode cX2_readMeets 118 = .ok (.iload_n 2, 1) := by decide +kernel
theorem dX2_readMeets_119 : decode cX2_readMeets 119 = .ok (.ishl, 1) := by decide +kernel
theorem dX2_readMeets_120 : decode cX2_readMeets 120 = .ok (.ior, 1) := by decide +kernel
theorem dX2_readMeets_121 : decode cX2_readMeets 121 = .ok (.iastore, 1) := by decide +kernel
theorem dX2_readMeets_122 : decode cX2_readMeets 122 = .ok (.aload_n 0, 1) := by decide +kernel
theorem dX2_readMeets_123 : decode cX2_readMeets 123 = .ok (.invokevirtual 29, 3) := by decide +kernel
theorem dX2_readMeets_126 : decode cX2_readMeets 126 = .ok (.aload_n 0, 1) := by decide +kernel
theorem dX2_readMeets_127 : decode cX2_readMeets 127 = .ok (.getfield 35, 3) := by decide +kernel
theorem dX2_readMeets_130 : decode cX2_readMeets 130 = .ok (.iconst 3, 1) := by decide +kernel
theorem dX2_readMeets_131 : decode cX2_readMeets 131 = .ok (.if_icmp .ne 4, 3) := by decide +kernel
theorem dX2_readMeets_134 : decode cX2_readMeets 134 = .ok (.return_, 1) := by decide +kernel
theorem dX2_readMeets_135 : decode cX2_readMeets 135 = .ok (.iinc 1 1, 3) := by decide +kernel
theorem dX2_readMeets_138 : decode cX2_readMeets 138 = .ok (.goto (-116), 3) := by decide +kernel
theorem dX2_readMeets_141 : decode cX2_readMeets 141 = .ok (.return_, 1) := by decide +kernel
theorem b_X2_readMeets_0  {σ : St} {Q : Res → St → Prop} (h : WP mX2_nextToken 0 [vR 3 0, vU] [] (up (up σ 3 0 11 1) 3 0 8 (bor (σ 3 0 8) 16)) (CT mX2_readMeets 20 [vR 3 0, vU, vU, vU] [] Q)) : WP mX2_readMeets 0 [vR 3 0, vU, vU, vU] [] σ Q := by
  refine wp_aload_n dX2_readMeets_0 rfl rfl ?_
  refine wp_iconst dX2_readMeets_1 rfl ?_
  refine wp_putZ dX2_readMeets_2 fp_CustomValley_Reader_65 rfl rfl rfl (by decide) ?_
  refine wp_aload_n dX2_readMeets_5 rfl rfl ?_
  refine wp_dup dX2_readMeets_6 ?_
  refine wp_getI dX2_readMeets_7 fl_CustomValley_Reader_44 rfl rfl rfl ?_
  rw [show (up σ 3 0 11 1) 3 0 8 = σ 3 0 8 from by simp [up]]
  refine wp_bipush dX2_readMeets_10 rfl ?_
  refine wp_ior dX2_readMeets_12 ?_
  refine wp_putI dX2_readMeets_13 fp_CustomValley_Reader_44 rfl rfl rfl ?_
  refine wp_aload_n dX2_readMeets_16 rfl rfl ?_
  refine wp_invV (N := mX2_nextToken) [] dX2_readMeets_17 ml_CustomValley_Reader_29 mvX2_nextToken rfl rfl rfl rfl rfl (Nat.le_of_ble_eq_true rfl) (Nat.le_of_ble_eq_true rfl) (by decide) (by decide) (by decide) ?_
  exact h
theorem b_X2_readMeets_20  {σ : St} {Q : Res → St → Prop} (h : WP mX2_readMeets 22 [vR 3 0, vI 0, vU, vU] [] σ Q) : WP mX2_readMeets 20 [vR 3 0, vU, vU, vU] [] σ Q := by
  refine wp_iconst dX2_readMeets_20 rfl ?_
  refine wp_istore_n dX2_readMeets_21 rfl (by decide) rfl rfl ?_
  exact h
theorem b_X2_readMeets_22 {x1 : Int} {σ : St} {Q : Res → St → Prop} (h : ((700 ≤ x1) → (Q (.inl none) σ)) ∧ ((x1 < 700) → ((((σ 3 0 2) ≠ 0) → (Q (.inl none) σ)) ∧ (((σ 3 0 2) = 0) → ((in32 ((σ 10 2 0) - 1)) ∧ (WP mX2_numberWithin 0 [vR 3 0, vI 0, vI ((σ 10 2 0) - 1)] [] σ (CT mX2_readMeets 50 [vR 3 0, vI x1, vU, vU] [] Q))))))) : WP mX2_readMeets 22 [vR 3 0, vI x1, vU, vU] [] σ Q := by
  refine wp_iload_n dX2_readMeets_22 rfl rfl ?_
  refine wp_sipush dX2_readMeets_23 rfl ?_
  refine wp_icmp_ge (tgt := 141) dX2_readMeets_26 (by decide) (fun hc => ?_) (fun hc => ?_)
  · replace h := h.1 hc
    exact wp_ret dX2_readMeets_141 rfl h
  · replace h := h.2 hc
    refine wp_aload_n dX2_readMeets_29 rfl rfl ?_
    refine wp_getI dX2_readMeets_30 fl_CustomValley_Reader_32 rfl rfl rfl ?_
    refine wp_if_ne (tgt := 141) dX2_readMeets_33 (by decide) (fun hc => ?_) (fun hc => ?_)
    · replace h := h.1 hc
      exact wp_ret dX2_readMeets_141 rfl h
    · replace h := h.2 hc
      refine wp_aload_n dX2_readMeets_36 rfl rfl ?_
      refine wp_iconst dX2_readMeets_37 rfl ?_
      refine wp_aload_n dX2_readMeets_38 rfl rfl ?_
      refine wp_getR dX2_readMeets_39 fl_CustomValley_Reader_12 rfl rfl ?_
      refine wp_getI dX2_readMeets_42 fl_CustomValley_Reader_177 rfl rfl rfl ?_
      refine wp_iconst dX2_readMeets_45 rfl ?_
      have s1 := h.1
      replace h := h.2
      refine wp_isub dX2_readMeets_46 ?_ (h1 := s1.1) (h2 := s1.2)
      refine wp_invV (N := mX2_numberWithin) [vI 0, vI ((σ 10 2 0) - 1)] dX2_readMeets_47 ml_CustomValley_Reader_161 mvX2_numberWithin rfl rfl rfl rfl rfl (Nat.le_of_ble_eq_true rfl) (Nat.le_of_ble_eq_true rfl) (by decide) (by decide) (by decide) ?_
      exact h
theorem b_X2_readMeets_50 {x1 : Int} {t0 : Int} {σ : St} {Q : Res → St → Prop} (h : (in32 ((σ 10 2 0) - 1)) ∧ (WP mX2_nextWithin 0 [vR 3 0, vI 0, vI ((σ 10 2 0) - 1)] [] σ (CT mX2_readMeets 65 [vR 3 0, vI x1, vI t0, vU] [] Q))) : WP mX2_readMeets 50 [vR 3 0, vI x1, vU, vU] [vI t0] σ Q := by
  refine wp_istore_n dX2_readMeets_50 rfl (by decide) rfl rfl ?_
  refine wp_aload_n dX2_readMeets_51 rfl rfl ?_
  refine wp_iconst dX2_readMeets_52 rfl ?_
  refine wp_aload_n dX2_readMeets_53 rfl rfl ?_
  refine wp_getR dX2_readMeets_54 fl_CustomValley_Reader_12 rfl rfl ?_
  refine wp_getI dX2_readMeets_57 fl_CustomValley_Reader_177 rfl rfl rfl ?_
  refine wp_iconst dX2_readMeets_60 rfl ?_
  have s1 := h.1
  replace h := h.2
  refine wp_isub dX2_readMeets_61 ?_ (h1 := s1.1) (h2 := s1.2)
  refine wp_invV (N := mX2_nextWithin) [vI 0, vI ((σ 10 2 0) - 1)] dX2_readMeets_62 ml_CustomValley_Reader_168 mvX2_nextWithin rfl rfl rfl rfl rfl (Nat.le_of_ble_eq_true rfl) (Nat.le_of_ble_eq_true rfl) (by decide) (by decide) (by decide) ?_
  exact h
theorem b_X2_readMeets_65 {x1 : Int} {x2 : Int} {t0 : Int} {σ : St} {Q : Res → St → Prop} (h : ((x2 = t0) → (WP mX2_fail 0 [vR 3 0, vI 3] [] σ (CT mX2_readMeets 92 [vR 3 0, vI x1, vI x2, vI t0] [] Q))) ∧ ((x2 ≠ t0) → ((0 ≤ x2 ∧ x2 < 10) ∧ ((((band (shr (σ 56 2 x2.toNat) t0) 1) = 0) → (WP mX2_readMeets 92 [vR 3 0, vI x1, vI x2, vI t0] [] σ Q)) ∧ (((band (shr (σ 56 2 x2.toNat) t0) 1) ≠ 0) → (WP mX2_fail 0 [vR 3 0, vI 3] [] σ (CT mX2_readMeets 92 [vR 3 0, vI x1, vI x2, vI t0] [] Q))))))) : WP mX2_readMeets 65 [vR 3 0, vI x1, vI x2, vU] [vI t0] σ Q := by
  refine wp_istore_n dX2_readMeets_65 rfl (by decide) rfl rfl ?_
  refine wp_iload_n dX2_readMeets_66 rfl rfl ?_
  refine wp_iload_n dX2_readMeets_67 rfl rfl ?_
  refine wp_icmp_eq (tgt := 87) dX2_readMeets_68 (by decide) (fun hc => ?_) (fun hc => ?_)
  · replace h := h.1 hc
    refine wp_aload_n dX2_readMeets_87 rfl rfl ?_
    refine wp_iconst dX2_readMeets_88 rfl ?_
    refine wp_invV (N := mX2_fail) [vI 3] dX2_readMeets_89 ml_CustomValley_Reader_155 mvX2_fail rfl rfl rfl rfl rfl (Nat.le_of_ble_eq_true rfl) (Nat.le_of_ble_eq_true rfl) (by decide) (by decide) (by decide) ?_
    exact h
  · replace h := h.2 hc
    refine wp_aload_n dX2_readMeets_71 rfl rfl ?_
    refine wp_getR dX2_readMeets_72 fl_CustomValley_Reader_12 rfl rfl ?_
    refine wp_getR dX2_readMeets_75 fl_CustomValley_Reader_183 rfl rfl ?_
    refine wp_iload_n dX2_readMeets_78 rfl rfl ?_
    have s1 := h.1
    replace h := h.2
    refine wp_iaload dX2_readMeets_79 rfl rfl s1.1 s1.2 ?_
    refine wp_iload_n dX2_readMeets_80 rfl rfl ?_
    refine wp_ishr dX2_readMeets_81 ?_
    refine wp_iconst dX2_readMeets_82 rfl ?_
    refine wp_iand dX2_readMeets_83 ?_
    refine wp_if_eq (tgt := 92) dX2_readMeets_84 (by decide) (fun hc => ?_) (fun hc => ?_)
    · replace h := h.1 hc
      exact h
    · replace h := h.2 hc
      refine wp_aload_n dX2_readMeets_87 rfl rfl ?_
      refine wp_iconst dX2_readMeets_88 rfl ?_
      refine wp_invV (N := mX2_fail) [vI 3] dX2_readMeets_89 ml_CustomValley_Reader_155 mvX2_fail rfl rfl rfl rfl rfl (Nat.le_of_ble_eq_true rfl) (Nat.le_of_ble_eq_true rfl) (by decide) (by decide) (by decide) ?_
      exact h
theorem b_X2_readMeets_92 {x1 : Int} {x2 : Int} {x3 : Int} {σ : St} {Q : Res → St → Prop} (h : (0 ≤ x2 ∧ x2 < 10) ∧ ((0 ≤ x2 ∧ x2 < 10) ∧ ((0 ≤ x3 ∧ x3 < 10) ∧ ((0 ≤ x3 ∧ x3 < 10) ∧ (WP mX2_nextToken 0 [vR 3 0, vU] [] (up (up σ 56 2 x2.toNat (bor (σ 56 2 x2.toNat) (shl 1 x3))) 56 2 x3.toNat (bor ((up σ 56 2 x2.toNat (bor (σ 56 2 x2.toNat) (shl 1 x3))) 56 2 x3.toNat) (shl 1 x2))) (CT mX2_readMeets 126 [vR 3 0, vI x1, vU, vU] [] Q)))))) : WP mX2_readMeets 92 [vR 3 0, vI x1, vI x2, vI x3] [] σ Q := by
  refine wp_aload_n dX2_readMeets_92 rfl rfl ?_
  refine wp_getR dX2_readMeets_93 fl_CustomValley_Reader_12 rfl rfl ?_
  refine wp_getR dX2_readMeets_96 fl_CustomValley_Reader_183 rfl rfl ?_
  refine wp_iload_n dX2_readMeets_99 rfl rfl ?_
  refine wp_dup2 dX2_readMeets_100 ?_
  have s4 := h.1
  replace h := h.2
  refine wp_iaload dX2_readMeets_101 rfl rfl s4.1 s4.2 ?_
  refine wp_iconst dX2_readMeets_102 rfl ?_
  refine wp_iload_n dX2_readMeets_103 rfl rfl ?_
  refine wp_ishl dX2_readMeets_104 ?_
  refine wp_ior dX2_readMeets_105 ?_
  have s3 := h.1
  replace h := h.2
  refine wp_iastore dX2_readMeets_106 rfl rfl s3.1 s3.2 ?_
  refine wp_aload_n dX2_readMeets_107 rfl rfl ?_
  refine wp_getR dX2_readMeets_108 fl_CustomValley_Reader_12 rfl rfl ?_
  refine wp_getR dX2_readMeets_111 fl_CustomValley_Reader_183 rfl rfl ?_
  refine wp_iload_n dX2_readMeets_114 rfl rfl ?_
  refine wp_dup2 dX2_readMeets_115 ?_
  have s2 := h.1
  replace h := h.2
  refine wp_iaload dX2_readMeets_116 rfl rfl s2.1 s2.2 ?_
  refine wp_iconst dX2_readMeets_117 rfl ?_
  refine wp_iload_n dX2_readMeets_118 rfl rfl ?_
  refine wp_ishl dX2_readMeets_119 ?_
  refine wp_ior dX2_readMeets_120 ?_
  have s1 := h.1
  replace h := h.2
  refine wp_iastore dX2_readMeets_121 rfl rfl s1.1 s1.2 ?_
  refine wp_aload_n dX2_readMeets_122 rfl rfl ?_
  refine wp_invV (N := mX2_nextToken) [] dX2_readMeets_123 ml_CustomValley_Reader_29 mvX2_nextToken rfl rfl rfl rfl rfl (Nat.le_of_ble_eq_true rfl) (Nat.le_of_ble_eq_true rfl) (by decide) (by decide) (by decide) ?_
  exact WP.mono h (ct_drop (lle_c (Or.inl rfl) (lle_c (Or.inl rfl) (lle_c (Or.inr rfl) (lle_c (Or.inr rfl) lle_n)))))
theorem b_X2_readMeets_126 {x1 : Int} {σ : St} {Q : Res → St → Prop} (h : (((σ 3 0 5) ≠ 3) → ((in32 (x1 + 1)) ∧ (WP mX2_readMeets 22 [vR 3 0, vI (x1 + 1), vU, vU] [] σ Q))) ∧ (((σ 3 0 5) = 3) → (Q (.inl none) σ))) : WP mX2_readMeets 126 [vR 3 0, vI x1, vU, vU] [] σ Q := by
  refine wp_aload_n dX2_readMeets_126 rfl rfl ?_
  refine wp_getI dX2_readMeets_127 fl_CustomValley_Reader_35 rfl rfl rfl ?_
  refine wp_iconst dX2_readMeets_130 rfl ?_
  refine wp_icmp_ne (tgt := 135) dX2_readMeets_131 (by decide) (fun hc => ?_) (fun hc => ?_)
  · replace h := h.1 hc
    have s1 := h.1
    replace h := h.2
    refine wp_iinc dX2_readMeets_135 rfl (by decide) rfl rfl ?_ (h1 := s1.1) (h2 := s1.2)
    refine wp_goto (tgt := 22) dX2_readMeets_138 (by decide) ?_
    exact h
  · replace h := h.2 hc
    exact wp_ret dX2_readMeets_134 rfl h
theorem dX2_readPeople_0 : decode cX2_readPeople 0 = .ok (.aload_n 0, 1) := by decide +kernel
theorem dX2_readPeople_1 : decode cX2_readPeople 1 = .ok (.iconst 1, 1) := by decide +kernel
theorem dX2_readPeople_2 : decode cX2_readPeople 2 = .ok (.invokevirtual 165, 3) := by decide +kernel
theorem dX2_readPeople_5 : decode cX2_readPeople 5 = .ok (.aload_n 0, 1) := by decide +kernel
theorem dX2_readPeople_6 : decode cX2_readPeople 6 = .ok (.iconst 2, 1) := by decide +kernel
theorem dX2_readPeople_7 : decode cX2_readPeople 7 = .ok (.bipush 10, 2) := by decide +kernel
theorem dX2_readPeople_9 : decode cX2_readPeople 9 = .ok (.invokevirtual 168, 3) := by decide +kernel
theorem dX2_readPeople_12 : decode cX2_readPeople 12 = .ok (.istore_n 1, 1) := by decide +kernel
theorem dX2_readPeople_13 : decode cX2_readPeople 13 = .ok (.aload_n 0, 1) := by decide +kernel
theorem dX2_readPeople_14 : decode cX2_readPeople 14 = .ok (.getfield 12, 3) := by decide +kernel
theorem dX2_readPeople_17 : decode cX2_readPeople 17 = .ok (.getfield 171, 3) := by decide +kernel
theorem dX2_readPeople_20 : decode cX2_readPeople 20 = .ok (.iload_n 1, 1) := by decide +kernel
theorem dX2_readPeople_21 : decode cX2_readPeople 21 = .ok (.invokestatic 173, 3) := by decide +kernel
theorem dX2_readPeople_24 : decode cX2_readPeople 24 = .ok (.ifCond .eq 11, 3) := by decide +kernel
theorem dX2_readPeople_27 : decode cX2_readPeople 27 = .ok (.aload_n 0, 1) := by decide +kernel
theorem dX2_readPeople_28 : decode cX2_readPeople 28 = .ok (.iconst 2, 1) := by decide +kernel
theorem dX2_readPeople_29 : decode cX2_readPeople 29 = .ok (.invokevirtual 155, 3) := by decide +kernel
theorem dX2_readPeople_32 : decode cX2_readPeople 32 = .ok (.goto 11, 3) := by decide +kernel
theorem dX2_readPeople_35 : decode cX2_readPeople 35 = .ok (.aload_n 0, 1) := by decide +kernel
theorem dX2_readPeople_36 : decode cX2_readPeople 36 = .ok (.getfield 12, 3) := by decide +kernel
theorem dX2_readPeople_39 : decode cX2_readPeople 39 = .ok (.iload_n 1, 1) := by decide +kernel
theorem dX2_readPeople_40 : decode cX2_readPeople 40 = .ok (.putfield 177, 3) := by decide +kernel
theorem dX2_readPeople_43 : decode cX2_readPeople 43 = .ok (.return_, 1) := by decide +kernel
theorem b_X2_readPeople_0  {σ : St} {Q : Res → St → Prop} (h : WP mX2_tellSize 0 [vR 3 0, vI 1] [] σ (CT mX2_readPeople 5 [vR 3 0, vU] [] Q)) : WP mX2_readPeople 0 [vR 3 0, vU] [] σ Q := by
  refine wp_aload_n dX2_readPeople_0 rfl rfl ?_
  refine wp_iconst dX2_readPeople_1 rfl ?_
  refine wp_invV (N := mX2_tellSize) [vI 1] dX2_readPeople_2 ml_CustomValley_Reader_165 mvX2_tellSize rfl rfl rfl rfl rfl (Nat.le_of_ble_eq_true rfl) (Nat.le_of_ble_eq_true rfl) (by decide) (by decide) (by decide) ?_
  exact h
theorem b_X2_readPeople_5  {σ : St} {Q : Res → St → Prop} (h : WP mX2_nextWithin 0 [vR 3 0, vI 2, vI 10] [] σ (CT mX2_readPeople 12 [vR 3 0, vU] [] Q)) : WP mX2_readPeople 5 [vR 3 0, vU] [] σ Q := by
  refine wp_aload_n dX2_readPeople_5 rfl rfl ?_
  refine wp_iconst dX2_readPeople_6 rfl ?_
  refine wp_bipush dX2_readPeople_7 rfl ?_
  refine wp_invV (N := mX2_nextWithin) [vI 2, vI 10] dX2_readPeople_9 ml_CustomValley_Reader_168 mvX2_nextWithin rfl rfl rfl rfl rfl (Nat.le_of_ble_eq_true rfl) (Nat.le_of_ble_eq_true rfl) (by decide) (by decide) (by decide) ?_
  exact h
theorem b_X2_readPeople_12 {t0 : Int} {σ : St} {Q : Res → St → Prop} (h : WP mX2_tooMany 0 [vI (σ 10 2 1), vI t0, vU, vU] [] σ (CT mX2_readPeople 24 [vR 3 0, vI t0] [] Q)) : WP mX2_readPeople 12 [vR 3 0, vU] [vI t0] σ Q := by
  refine wp_istore_n dX2_readPeople_12 rfl (by decide) rfl rfl ?_
  refine wp_aload_n dX2_readPeople_13 rfl rfl ?_
  refine wp_getR dX2_readPeople_14 fl_CustomValley_Reader_12 rfl rfl ?_
  refine wp_getI dX2_readPeople_17 fl_CustomValley_Reader_171 rfl rfl rfl ?_
  refine wp_iload_n dX2_readPeople_20 rfl rfl ?_
  refine wp_invS (N := mX2_tooMany) [vI (σ 10 2 1), vI t0] dX2_readPeople_21 ml_CustomValley_Reader_173 mvX2_tooMany rfl rfl rfl (Nat.le_of_ble_eq_true rfl) (Nat.le_of_ble_eq_true rfl) (by decide) (by decide) ?_
  exact h
theorem b_X2_readPeople_24 {x1 : Int} {t0 : Int} {σ : St} {Q : Res → St → Prop} (h : ((t0 = 0) → (Q (.inl none) (up σ 10 2 0 x1))) ∧ ((t0 ≠ 0) → (WP mX2_fail 0 [vR 3 0, vI 2] [] σ (CT mX2_readPeople 32 [vU, vU] [] Q)))) : WP mX2_readPeople 24 [vR 3 0, vI x1] [vI t0] σ Q := by
  refine wp_if_eq (tgt := 35) dX2_readPeople_24 (by decide) (fun hc => ?_) (fun hc => ?_)
  · replace h := h.1 hc
    refine wp_aload_n dX2_readPeople_35 rfl rfl ?_
    refine wp_getR dX2_readPeople_36 fl_CustomValley_Reader_12 rfl rfl ?_
    refine wp_iload_n dX2_readPeople_39 rfl rfl ?_
    refine wp_putI dX2_readPeople_40 fp_CustomValley_Reader_177 rfl rfl rfl ?_
    exact wp_ret dX2_readPeople_43 rfl h
  · replace h := h.2 hc
    refine wp_aload_n dX2_readPeople_27 rfl rfl ?_
    refine wp_iconst dX2_readPeople_28 rfl ?_
    refine wp_invV (N := mX2_fail) [vI 2] dX2_readPeople_29 ml_CustomValley_Reader_155 mvX2_fail rfl rfl rfl rfl rfl (Nat.le_of_ble_eq_true rfl) (Nat.le_of_ble_eq_true rfl) (by decide) (by decide) (by decide) ?_
    exact WP.mono h (ct_drop (lle_c (Or.inr rfl) (lle_c (Or.inr rfl) lle_n)))
theorem b_X2_readPeople_32  {σ : St} {Q : Res → St → Prop} (h : Q (.inl none) σ) : WP mX2_readPeople 32 [vU, vU] [] σ Q := by
  refine wp_goto (tgt := 43) dX2_readPeople_32 (by decide) ?_
  exact wp_ret dX2_readPeople_43 rfl h
theorem dX2_readSlip_0 : decode cX2_readSlip 0 = .ok (.aload_n 0, 1) := by decide +kernel
theorem dX2_readSlip_1 : decode cX2_readSlip 1 = .ok (.iconst 1, 1) := by decide +kernel
theorem dX2_readSlip_2 : decode cX2_readSlip 2 = .ok (.putfield 65, 3) := by decide +kernel
theorem dX2_readSlip_5 : decode cX2_readSlip 5 = .ok (.aload_n 0, 1) := by decide +kernel
theorem dX2_readSlip_6 : decode cX2_readSlip 6 = .ok (.iconst 0, 1) := by decide +kernel
theorem dX2_readSlip_7 : decode cX2_readSlip 7 = .ok (.aload_n 0, 1) := by decide +kernel
theorem dX2_readSlip_8 : decode cX2_readSlip 8 = .ok (.getfield 12, 3) := by decide +kernel
theorem dX2_readSlip_11 : decode cX2_readSlip 11 = .ok (.getfield 171, 3) := by decide +kernel
theorem dX2_readSlip_14 : decode cX2_readSlip 14 = .ok (.iconst 1, 1) := by decide +kernel
theorem dX2_readSlip_15 : decode cX2_readSlip 15 = .ok (.isub, 1) := by decide +kernel
theorem dX2_readSlip_16 : decode cX2_readSlip 16 = .ok (.invokevirtual 168, 3) := by decide +kernel
theorem dX2_readSlip_19 : decode cX2_readSlip 19 = .ok (.istore_n 1, 1) := by decide +kernel
theorem dX2_readSlip_20 : decode cX2_readSlip 20 = .ok (.aload_n 0, 1) := by decide +kernel
theorem dX2_readSlip_21 : decode cX2_readSlip 21 = .ok (.getfield 62, 3) := by decide +kernel
theorem dX2_readSlip_24 : decode cX2_readSlip 24 = .ok (.iload_n 1, 1) := by decide +kernel
theorem dX2_readSlip_25 : decode cX2_readSlip 25 = .ok (.ishr, 1) := by decide +kernel
theorem dX2_readSlip_26 : decode cX2_readSlip 26 = .ok (.iconst 1, 1) := by decide +kernel
theorem dX2_readSlip_27 : decode cX2_readSlip 27 = .ok (.iand, 1) := by decide +kernel
theorem dX2_readSlip_28 : decode cX2_readSlip 28 = .ok (.ifCond .eq 8, 3) := by decide +kernel
theorem dX2_readSlip_31 : decode cX2_readSlip 31 = .ok (.aload_n 0, 1) := by decide +kernel
theorem dX2_readSlip_32 : decode cX2_readSlip 32 = .ok (.iconst 3, 1) := by decide +kernel
theorem dX2_readSlip_33 : decode cX2_readSlip 33 = .ok (.invokevirtual 155, 3) := by decide +kernel
theorem dX2_readSlip_36 : decode cX2_readSlip 36 = .ok (.aload_n 0, 1) := by decide +kernel
theorem dX2_readSlip_37 : decode cX2_readSlip 37 = .ok (.dup, 1) := by decide +kernel
theorem dX2_readSlip_38 : decode cX2_readSlip 38 = .ok (.getfield 62, 3) := by decide +kernel
theorem dX2_readSlip_41 : decode cX2_readSlip 41 = .ok (.iconst 1, 1) := by decide +kernel
theorem dX2_readSlip_42 : decode cX2_readSlip 42 = .ok (.iload_n 1, 1) := by decide +kernel
theorem dX2_readSlip_43 : decode cX2_readSlip 43 = .ok (.ishl, 1) := by decide +kernel
theorem dX2_readSlip_44 : decode cX2_readSlip 44 = .ok (.ior, 1) := by decide +kernel
theorem dX2_readSlip_45 : decode cX2_readSlip 45 = .ok (.putfield 62, 3) := by decide +kernel
theorem dX2_readSlip_48 : decode cX2_readSlip 48 = .ok (.aload_n 0, 1) := by decide +kernel
theorem dX2_readSlip_49 : decode cX2_readSlip 49 = .ok (.getfield 12, 3) := by decide +kernel
theorem dX2_readSlip_52 : decode cX2_readSlip 52 = .ok (.getfield 195, 3) := by decide +kernel
theorem dX2_readSlip_55 : decode cX2_readSlip 55 = .ok (.iload_n 1, 1) := by decide +kernel
theorem dX2_readSlip_56 : decode cX2_readSlip 56 = .ok (.aload_n 0, 1) := by decide +kernel
theorem dX2_readSlip_57 : decode cX2_readSlip 57 = .ok (.iconst 1, 1) := by decide +kernel
theorem dX2_readSlip_58 : decode cX2_readSlip 58 = .ok (.iconst 3, 1) := by decide +kernel
theorem dX2_readSlip_59 : decode cX2_readSlip 59 = .ok (.invokevirtual 168, 3) := by decide +kernel
theorem dX2_readSlip_62 : decode cX2_readSlip 62 = .ok (.iastore, 1) := by decide +kernel
theorem dX2_readSlip_63 : decode cX2_readSlip 63 = .ok (.return_, 1) := by decide +kernel
theorem b_X2_readSlip_0  {σ : St} {Q : Res → St → Prop} (h : (in32 ((σ 10 2 1) - 1)) ∧ (WP mX2_nextWithin 0 [vR 3 0, vI 0, vI ((σ 10 2 1) - 1)] [] (up σ 3 0 11 1) (CT mX2_readSlip 19 [vR 3 0, vU] [] Q))) : WP mX2_readSlip 0 [vR 3 0, vU] [] σ Q := by
  refine wp_aload_n dX2_readSlip_0 rfl rfl ?_
  refine wp_iconst dX2_readSlip_1 rfl ?_
  refine wp_putZ dX2_readSlip_2 fp_CustomValley_Reader_65 rfl rfl rfl (by decide) ?_
  refine wp_aload_n dX2_readSlip_5 rfl rfl ?_
  refine wp_iconst dX2_readSlip_6 rfl ?_
  refine wp_aload_n dX2_readSlip_7 rfl rfl ?_
  refine wp_getR dX2_readSlip_8 fl_CustomValley_Reader_12 rfl rfl ?_
  refine wp_getI dX2_readSlip_11 fl_CustomValley_Reader_171 rfl rfl rfl ?_
  rw [show (up σ 3 0 11 1) 10 2 1 = σ 10 2 1 from by simp [up]]
  refine wp_iconst dX2_readSlip_14 rfl ?_
  have s1 := h.1
  replace h := h.2
  refine wp_isub dX2_readSlip_15 ?_ (h1 := s1.1) (h2 := s1.2)
  refine wp_invV (N := mX2_nextWithin) [vI 0, vI ((σ 10 2 1) - 1)] dX2_readSlip_16 ml_CustomValley_Reader_168 mvX2_nextWithin rfl rfl rfl rfl rfl (Nat.le_of_ble_eq_true rfl) (Nat.le_of_ble_eq_true rfl) (by decide) (by decide) (by decide) ?_
  exact h
theorem b_X2_readSlip_19 {t0 : Int} {σ : St} {Q : Res → St → Prop} (h : (((band (shr (σ 3 0 10) t0) 1) = 0) → (WP mX2_readSlip 36 [vR 3 0, vI t0] [] σ Q)) ∧ (((band (shr (σ 3 0 10) t0) 1) ≠ 0) → (WP mX2_fail 0 [vR 3 0, vI 3] [] σ (CT mX2_readSlip 36 [vR 3 0, vI t0] [] Q)))) : WP mX2_readSlip 19 [vR 3 0, vU] [vI t0] σ Q := by
  refine wp_istore_n dX2_readSlip_19 rfl (by decide) rfl rfl ?_
  refine wp_aload_n dX2_readSlip_20 rfl rfl ?_
  refine wp_getI dX2_readSlip_21 fl_CustomValley_Reader_62 rfl rfl rfl ?_
  refine wp_iload_n dX2_readSlip_24 rfl rfl ?_
  refine wp_ishr dX2_readSlip_25 ?_
  refine wp_iconst dX2_readSlip_26 rfl ?_
  refine wp_iand dX2_readSlip_27 ?_
  refine wp_if_eq (tgt := 36) dX2_readSlip_28 (by decide) (fun hc => ?_) (fun hc => ?_)
  · replace h := h.1 hc
    exact h
  · replace h := h.2 hc
    refine wp_aload_n dX2_readSlip_31 rfl rfl ?_
    refine wp_iconst dX2_readSlip_32 rfl ?_
    refine wp_invV (N := mX2_fail) [vI 3] dX2_readSlip_33 ml_CustomValley_Reader_155 mvX2_fail rfl rfl rfl rfl rfl (Nat.le_of_ble_eq_true rfl) (Nat.le_of_ble_eq_true rfl) (by decide) (by decide) (by decide) ?_
    exact h
theorem b_X2_readSlip_36 {x1 : Int} {σ : St} {Q : Res → St → Prop} (h : WP mX2_nextWithin 0 [vR 3 0, vI 1, vI 3] [] (up σ 3 0 10 (bor (σ 3 0 10) (shl 1 x1))) (CT mX2_readSlip 62 [vU, vU] [vI x1, vR 55 2] Q)) : WP mX2_readSlip 36 [vR 3 0, vI x1] [] σ Q := by
  refine wp_aload_n dX2_readSlip_36 rfl rfl ?_
  refine wp_dup dX2_readSlip_37 ?_
  refine wp_getI dX2_readSlip_38 fl_CustomValley_Reader_62 rfl rfl rfl ?_
  refine wp_iconst dX2_readSlip_41 rfl ?_
  refine wp_iload_n dX2_readSlip_42 rfl rfl ?_
  refine wp_ishl dX2_readSlip_43 ?_
  refine wp_ior dX2_readSlip_44 ?_
  refine wp_putI dX2_readSlip_45 fp_CustomValley_Reader_62 rfl rfl rfl ?_
  refine wp_aload_n dX2_readSlip_48 rfl rfl ?_
  refine wp_getR dX2_readSlip_49 fl_CustomValley_Reader_12 rfl rfl ?_
  refine wp_getR dX2_readSlip_52 fl_CustomValley_Reader_195 rfl rfl ?_
  refine wp_iload_n dX2_readSlip_55 rfl rfl ?_
  refine wp_aload_n dX2_readSlip_56 rfl rfl ?_
  refine wp_iconst dX2_readSlip_57 rfl ?_
  refine wp_iconst dX2_readSlip_58 rfl ?_
  refine wp_invV (N := mX2_nextWithin) [vI 1, vI 3] dX2_readSlip_59 ml_CustomValley_Reader_168 mvX2_nextWithin rfl rfl rfl rfl rfl (Nat.le_of_ble_eq_true rfl) (Nat.le_of_ble_eq_true rfl) (by decide) (by decide) (by decide) ?_
  exact WP.mono h (ct_drop (lle_c (Or.inr rfl) (lle_c (Or.inr rfl) lle_n)))
theorem b_X2_readSlip_62 {t0 : Int} {t1 : Int} {σ : St} {Q : Res → St → Prop} (h : (0 ≤ t1 ∧ t1 < 4) ∧ (Q (.inl none) (up σ 55 2 t1.toNat t0))) : WP mX2_readSlip 62 [vU, vU] [vI t0, vI t1, vR 55 2] σ Q := by
  have s1 := h.1
  replace h := h.2
  refine wp_iastore dX2_readSlip_62 rfl rfl s1.1 s1.2 ?_
  exact wp_ret dX2_readSlip_63 rfl h
theorem dX2_readWorth_0 : decode cX2_readWorth 0 = .ok (.aload_n 0, 1) := by decide +kernel
theorem dX2_readWorth_1 : decode cX2_readWorth 1 = .ok (.iconst 1, 1) := by decide +kernel
theorem dX2_readWorth_2 : decode cX2_readWorth 2 = .ok (.putfield 65, 3) := by decide +kernel
theorem dX2_readWorth_5 : decode cX2_readWorth 5 = .ok (.aload_n 0, 1) := by decide +kernel
theorem dX2_readWorth_6 : decode cX2_readWorth 6 = .ok (.iconst 0, 1) := by decide +kernel
theorem dX2_readWorth_7 : decode cX2_readWorth 7 = .ok (.aload_n 0, 1) := by decide +kernel
theorem dX2_readWorth_8 : decode cX2_readWorth 8 = .ok (.getfield 12, 3) := by decide +kernel
theorem dX2_readWorth_11 : decode cX2_readWorth 11 = .ok (.getfield 171, 3) := by decide +kernel
theorem dX2_readWorth_14 : decode cX2_readWorth 14 = .ok (.iconst 1, 1) := by decide +kernel
theorem dX2_readWorth_15 : decode cX2_readWorth 15 = .ok (.isub, 1) := by decide +kernel
theorem dX2_readWorth_16 : decode cX2_readWorth 16 = .ok (.invokevirtual 168, 3) := by decide +kernel
theorem dX2_readWorth_19 : decode cX2_readWorth 19 = .ok (.istore_n 1, 1) := by decide +kernel
theorem dX2_readWorth_20 : decode cX2_readWorth 20 = .ok (.aload_n 0, 1) := by decide +kernel
theorem dX2_readWorth_21 : decode cX2_readWorth 21 = .ok (.iconst 0, 1) := by decide +kernel
theorem dX2_readWorth_22 : decode cX2_readWorth 22 = .ok (.aload_n 0, 1) := by decide +kernel
theorem dX2_readWorth_23 : decode cX2_readWorth 23 = .ok (.getfield 12, 3) := by decide +kernel
theorem dX2_readWorth_26 : decode cX2_readWorth 26 = .ok (.getfield 171, 3) := by decide +kernel
theorem dX2_readWorth_29 : decode cX2_readWorth 29 = .ok (.iconst 1, 1) := by decide +kernel
theorem dX2_readWorth_30 : decode cX2_readWorth 30 = .ok (.isub, 1) := by decide +kernel
theorem dX2_readWorth_31 : decode cX2_readWorth 31 = .ok (.invokevirtual 168, 3) := by decide +kernel
theorem dX2_readWorth_34 : decode cX2_readWorth 34 = .ok (.istore_n 2, 1) := by decide +kernel
theorem dX2_readWorth_35 : decode cX2_readWorth 35 = .ok (.iload_n 1, 1) := by decide +kernel
theorem dX2_readWorth_36 : decode cX2_readWorth 36 = .ok (.iconst 4, 1) := by decide +kernel
theorem dX2_readWorth_37 : decode cX2_readWorth 37 = .ok (.imul, 1) := by decide +kernel
theorem dX2_readWorth_38 : decode cX2_readWorth 38 = .ok (.iload_n 2, 1) := by decide +kernel
theorem dX2_readWorth_39 : decode cX2_readWorth 39 = .ok (.iadd, 1) := by decide +kernel
theorem dX2_readWorth_40 : decode cX2_readWorth 40 = .ok (.istore_n 3, 1) := by decide +kernel
theorem dX2_readWorth_41 : decode cX2_readWorth 41 = .ok (.aload_n 0, 1) := by decide +kernel
theorem dX2_readWorth_42 : decode cX2_readWorth 42 = .ok (.getfield 59, 3) := by decide +kernel
theorem dX2_readWorth_45 : decode cX2_readWorth 45 = .ok (.iload_n 3, 1) := by decide +kernel
theorem dX2_readWorth_46 : decode cX2_readWorth 46 = .ok (.ishr, 1) := by decide +kernel
theorem dX2_readWorth_47 : decode cX2_readWorth 47 = .ok (.iconst 1, 1) := by decide +kernel
theorem dX2_readWorth_48 : decode cX2_readWorth 48 = .ok (.iand, 1) := by decide +kernel
theorem dX2_readWorth_49 : decode cX2_readWorth 49 = .ok (.ifCond .eq 8, 3) := by decide +kernel
theorem dX2_readWorth_52 : decode cX2_readWorth 52 = .ok (.aload_n 0, 1) := by decide +kernel
theorem dX2_readWorth_53 : decode cX2_readWorth 53 = .ok (.iconst 3, 1) := by decide +kernel
theorem dX2_readWorth_54 : decode cX2_readWorth 54 = .ok (.invokevirtual 155, 3) := by decide +kernel
theorem dX2_readWorth_57 : decode cX2_readWorth 57 = .ok (.aload_n 0, 1) := by decide +kernel
theorem dX2_readWorth_58 : decode cX2_readWorth 58 = .ok (.dup, 1) := by decide +kernel
theorem dX2_readWorth_59 : decode cX2_readWorth 59 = .ok (.getfield 59, 3) := by decide +kernel
theorem dX2_readWorth_62 : decode cX2_readWorth 62 = .ok (.iconst 1, 1) := by decide +kernel
theorem dX2_readWorth_63 : decode cX2_readWorth 63 = .ok (.iload_n 3, 1) := by decide +kernel
theorem dX2_readWorth_64 : decode cX2_readWorth 64 = .ok (.ishl, 1) := by decide +kernel
theorem dX2_readWorth_65 : decode cX2_readWorth 65 = .ok (.ior, 1) := by decide +kernel
theorem dX2_readWorth_66 : decode cX2_readWorth 66 = .ok (.putfield 59, 3) := by decide +kernel
theorem dX2_readWorth_69 : decode cX2_readWorth 69 = .ok (.aload_n 0, 1) := by decide +kernel
theorem dX2_readWorth_70 : decode cX2_readWorth 70 = .ok (.getfield 12, 3) := by decide +kernel
theorem dX2_readWorth_73 : decode cX2_readWorth 73 = .ok (.getfield 179, 3) := by decide +kernel
theorem dX2_readWorth_76 : decode cX2_readWorth 76 = .ok (.iload_n 3, 1) := by decide +kernel
theorem dX2_readWorth_77 : decode cX2_readWorth 77 = .ok (.aload_n 0, 1) := by decide +kernel
theorem dX2_readWorth_78 : decode cX2_readWorth 78 = .ok (.iconst 0, 1) := by decide +kernel
theorem dX2_readWorth_79 : decode cX2_readWorth 79 = .ok (.bipush 99, 2) := by decide +kernel
theorem dX2_readWorth_81 : decode cX2_readWorth 81 = .ok (.invokevirtual 168, 3) := by decide +kernel
theorem dX2_readWorth_84 : decode cX2_readWorth 84 = .ok (.iastore, 1) := by decide +kernel
theorem dX2_readWorth_85 : decode cX2_readWorth 85 = .ok (.return_, 1) := by decide +kernel
theorem b_X2_readWorth_0  {σ : St} {Q : Res → St → Prop} (h : (in32 ((σ 10 2 1) - 1)) ∧ (WP mX2_nextWithin 0 [vR 3 0, vI 0, vI ((σ 10 2 1) - 1)] [] (up σ 3 0 11 1) (CT mX2_readWorth 19 [vR 3 0, vU, vU, vU] [] Q))) : WP mX2_readWorth 0 [vR 3 0, vU, vU, vU] [] σ Q := by
  refine wp_aload_n dX2_readWorth_0 rfl rfl ?_
  refine wp_iconst dX2_readWorth_1 rfl ?_
  refine wp_putZ dX2_readWorth_2 fp_CustomValley_Reader_65 rfl rfl rfl (by decide) ?_
  refine wp_aload_n dX2_readWorth_5 rfl rfl ?_
  refine wp_iconst dX2_readWorth_6 rfl ?_
  refine wp_aload_n dX2_readWorth_7 rfl rfl ?_
  refine wp_getR dX2_readWorth_8 fl_CustomValley_Reader_12 rfl rfl ?_
  refine wp_getI dX2_readWorth_11 fl_CustomValley_Reader_171 rfl rfl rfl ?_
  rw [show (up σ 3 0 11 1) 10 2 1 = σ 10 2 1 from by simp [up]]
  refine wp_iconst dX2_readWorth_14 rfl ?_
  have s1 := h.1
  replace h := h.2
  refine wp_isub dX2_readWorth_15 ?_ (h1 := s1.1) (h2 := s1.2)
  refine wp_invV (N := mX2_nextWithin) [vI 0, vI ((σ 10 2 1) - 1)] dX2_readWorth_16 ml_CustomValley_Reader_168 mvX2_nextWithin rfl rfl rfl rfl rfl (Nat.le_of_ble_eq_true rfl) (Nat.le_of_ble_eq_true rfl) (by decide) (by decide) (by decide) ?_
  exact h
theorem b_X2_readWorth_19 {t0 : Int} {σ : St} {Q : Res → St → Prop} (h : (in32 ((σ 10 2 1) - 1)) ∧ (WP mX2_nextWithin 0 [vR 3 0, vI 0, vI ((σ 10 2 1) - 1)] [] σ (CT mX2_readWorth 34 [vR 3 0, vI t0, vU, vU] [] Q))) : WP mX2_readWorth 19 [vR 3 0, vU, vU, vU] [vI t0] σ Q := by
  refine wp_istore_n dX2_readWorth_19 rfl (by decide) rfl rfl ?_
  refine wp_aload_n dX2_readWorth_20 rfl rfl ?_
  refine wp_iconst dX2_readWorth_21 rfl ?_
  refine wp_aload_n dX2_readWorth_22 rfl rfl ?_
  refine wp_getR dX2_readWorth_23 fl_CustomValley_Reader_12 rfl rfl ?_
  refine wp_getI dX2_readWorth_26 fl_CustomValley_Reader_171 rfl rfl rfl ?_
  refine wp_iconst dX2_readWorth_29 rfl ?_
  have s1 := h.1
  replace h := h.2
  refine wp_isub dX2_readWorth_30 ?_ (h1 := s1.1) (h2 := s1.2)
  refine wp_invV (N := mX2_nextWithin) [vI 0, vI ((σ 10 2 1) - 1)] dX2_readWorth_31 ml_CustomValley_Reader_168 mvX2_nextWithin rfl rfl rfl rfl rfl (Nat.le_of_ble_eq_true rfl) (Nat.le_of_ble_eq_true rfl) (by decide) (by decide) (by decide) ?_
  exact h
theorem b_X2_readWorth_34 {x1 : Int} {t0 : Int} {σ : St} {Q : Res → St → Prop} (h : (in32 (x1 * 4)) ∧ ((in32 ((x1 * 4) + t0)) ∧ ((((band (shr (σ 3 0 9) ((x1 * 4) + t0)) 1) = 0) → (WP mX2_readWorth 57 [vR 3 0, vU, vU, vI ((x1 * 4) + t0)] [] σ Q)) ∧ (((band (shr (σ 3 0 9) ((x1 * 4) + t0)) 1) ≠ 0) → (WP mX2_fail 0 [vR 3 0, vI 3] [] σ (CT mX2_readWorth 57 [vR 3 0, vU, vU, vI ((x1 * 4) + t0)] [] Q)))))) : WP mX2_readWorth 34 [vR 3 0, vI x1, vU, vU] [vI t0] σ Q := by
  refine wp_istore_n dX2_readWorth_34 rfl (by decide) rfl rfl ?_
  refine wp_iload_n dX2_readWorth_35 rfl rfl ?_
  refine wp_iconst dX2_readWorth_36 rfl ?_
  have s2 := h.1
  replace h := h.2
  refine wp_imul dX2_readWorth_37 ?_ (h1 := s2.1) (h2 := s2.2)
  refine wp_iload_n dX2_readWorth_38 rfl rfl ?_
  have s1 := h.1
  replace h := h.2
  refine wp_iadd dX2_readWorth_39 ?_ (h1 := s1.1) (h2 := s1.2)
  refine wp_istore_n dX2_readWorth_40 rfl (by decide) rfl rfl ?_
  refine wp_aload_n dX2_readWorth_41 rfl rfl ?_
  refine wp_getI dX2_readWorth_42 fl_CustomValley_Reader_59 rfl rfl rfl ?_
  refine wp_iload_n dX2_readWorth_45 rfl rfl ?_
  refine wp_ishr dX2_readWorth_46 ?_
  refine wp_iconst dX2_readWorth_47 rfl ?_
  refine wp_iand dX2_readWorth_48 ?_
  refine wp_if_eq (tgt := 57) dX2_readWorth_49 (by decide) (fun hc => ?_) (fun hc => ?_)
  · replace h := h.1 hc
    exact wp_drop (als' := [vR 3 0, vU, vU, vI ((x1 * 4) + t0)]) (lle_c (Or.inl rfl) (lle_c (Or.inr rfl) (lle_c (Or.inr rfl) (lle_c (Or.inl rfl) lle_n)))) h
  · replace h := h.2 hc
    refine wp_aload_n dX2_readWorth_52 rfl rfl ?_
    refine wp_iconst dX2_readWorth_53 rfl ?_
    refine wp_invV (N := mX2_fail) [vI 3] dX2_readWorth_54 ml_CustomValley_Reader_155 mvX2_fail rfl rfl rfl rfl rfl (Nat.le_of_ble_eq_true rfl) (Nat.le_of_ble_eq_true rfl) (by decide) (by decide) (by decide) ?_
    exact WP.mono h (ct_drop (lle_c (Or.inl rfl) (lle_c (Or.inr rfl) (lle_c (Or.inr rfl) (lle_c (Or.inl rfl) lle_n)))))
theorem b_X2_readWorth_57 {x3 : Int} {σ : St} {Q : Res → St → Prop} (h : WP mX2_nextWithin 0 [vR 3 0, vI 0, vI 99] [] (up σ 3 0 9 (bor (σ 3 0 9) (shl 1 x3))) (CT mX2_readWorth 84 [vU, vU, vU, vU] [vI x3, vR 54 2] Q)) : WP mX2_readWorth 57 [vR 3 0, vU, vU, vI x3] [] σ Q := by
  refine wp_aload_n dX2_readWorth_57 rfl rfl ?_
  refine wp_dup dX2_readWorth_58 ?_
  refine wp_getI dX2_readWorth_59 fl_CustomValley_Reader_59 rfl rfl rfl ?_
  refine wp_iconst dX2_readWorth_62 rfl ?_
  refine wp_iload_n dX2_readWorth_63 rfl rfl ?_
  refine wp_ishl dX2_readWorth_64 ?_
  refine wp_ior dX2_readWorth_65 ?_
  refine wp_putI dX2_readWorth_66 fp_CustomValley_Reader_59 rfl rfl rfl ?_
  refine wp_aload_n dX2_readWorth_69 rfl rfl ?_
  refine wp_getR dX2_readWorth_70 fl_CustomValley_Reader_12 rfl rfl ?_
  refine wp_getR dX2_readWorth_73 fl_CustomValley_Reader_179 rfl rfl ?_
  refine wp_iload_n dX2_readWorth_76 rfl rfl ?_
  refine wp_aload_n dX2_readWorth_77 rfl rfl ?_
  refine wp_iconst dX2_readWorth_78 rfl ?_
  refine wp_bipush dX2_readWorth_79 rfl ?_
  refine wp_invV (N := mX2_nextWithin) [vI 0, vI 99] dX2_readWorth_81 ml_CustomValley_Reader_168 mvX2_nextWithin rfl rfl rfl rfl rfl (Nat.le_of_ble_eq_true rfl) (Nat.le_of_ble_eq_true rfl) (by decide) (by decide) (by decide) ?_
  exact WP.mono h (ct_drop (lle_c (Or.inr rfl) (lle_c (Or.inl rfl) (lle_c (Or.inl rfl) (lle_c (Or.inr rfl) lle_n)))))
theorem b_X2_readWorth_84 {t0 : Int} {t1 : Int} {σ : St} {Q : Res → St → Prop} (h : (0 ≤ t1 ∧ t1 < 16) ∧ (Q (.inl none) (up σ 54 2 t1.toNat t0))) : WP mX2_readWorth 84 [vU, vU, vU, vU] [vI t0, vI t1, vR 54 2] σ Q := by
  have s1 := h.1
  replace h := h.2
  refine wp_iastore dX2_readWorth_84 rfl rfl s1.1 s1.2 ?_
  exact wp_ret dX2_readWorth_85 rfl h
theorem dX2_readAnswer_0 : decode cX2_readAnswer 0 = .ok (.aload_n 0, 1) := by decide +kernel
theorem dX2_readAnswer_1 : decode cX2_readAnswer 1 = .ok (.iconst 4, 1) := by decide +kernel
theorem dX2_readAnswer_2 : decode cX2_readAnswer 2 = .ok (.invokevirtual 139, 3) := by decide +kernel
theorem dX2_readAnswer_5 : decode cX2_readAnswer 5 = .ok (.aload_n 0, 1) := by decide +kernel
theorem dX2_readAnswer_6 : decode cX2_readAnswer 6 = .ok (.invokevirtual 29, 3) := by decide +kernel
theorem dX2_readAnswer_9 : decode cX2_readAnswer 9 = .ok (.aload_n 0, 1) := by decide +kernel
theorem dX2_readAnswer_10 : decode cX2_readAnswer 10 = .ok (.ldc 185, 2) := by decide +kernel
theorem dX2_readAnswer_12 : decode cX2_readAnswer 12 = .ok (.invokevirtual 110, 3) := by decide +kernel
theorem dX2_readAnswer_15 : decode cX2_readAnswer 15 = .ok (.ifCond .eq 14, 3) := by decide +kernel
theorem dX2_readAnswer_18 : decode cX2_readAnswer 18 = .ok (.aload_n 0, 1) := by decide +kernel
theorem dX2_readAnswer_19 : decode cX2_readAnswer 19 = .ok (.getfield 12, 3) := by decide +kernel
theorem dX2_readAnswer_22 : decode cX2_readAnswer 22 = .ok (.iconst 0, 1) := by decide +kernel
theorem dX2_readAnswer_23 : decode cX2_readAnswer 23 = .ok (.putfield 187, 3) := by decide +kernel
theorem dX2_readAnswer_26 : decode cX2_readAnswer 26 = .ok (.goto 48, 3) := by decide +kernel
theorem dX2_readAnswer_29 : decode cX2_readAnswer 29 = .ok (.aload_n 0, 1) := by decide +kernel
theorem dX2_readAnswer_30 : decode cX2_readAnswer 30 = .ok (.ldc 189, 2) := by decide +kernel
theorem dX2_readAnswer_32 : decode cX2_readAnswer 32 = .ok (.invokevirtual 110, 3) := by decide +kernel
theorem dX2_readAnswer_35 : decode cX2_readAnswer 35 = .ok (.ifCond .eq 14, 3) := by decide +kernel
theorem dX2_readAnswer_38 : decode cX2_readAnswer 38 = .ok (.aload_n 0, 1) := by decide +kernel
theorem dX2_readAnswer_39 : decode cX2_readAnswer 39 = .ok (.getfield 12, 3) := by decide +kernel
theorem dX2_readAnswer_42 : decode cX2_readAnswer 42 = .ok (.iconst 1, 1) := by decide +kernel
theorem dX2_readAnswer_43 : decode cX2_readAnswer 43 = .ok (.putfield 187, 3) := by decide +kernel
theorem dX2_readAnswer_46 : decode cX2_readAnswer 46 = .ok (.goto 28, 3) := by decide +kernel
theorem dX2_readAnswer_49 : decode cX2_readAnswer 49 = .ok (.aload_n 0, 1) := by decide +kernel
theorem dX2_readAnswer_50 : decode cX2_readAnswer 50 = .ok (.ldc 191, 2) := by decide +kernel
theorem dX2_readAnswer_52 : decode cX2_readAnswer 52 = .ok (.invokevirtual 110, 3) := by decide +kernel
theorem dX2_readAnswer_55 : decode cX2_readAnswer 55 = .ok (.ifCond .eq 14, 3) := by decide +kernel
theorem dX2_readAnswer_58 : decode cX2_readAnswer 58 = .ok (.aload_n 0, 1) := by decide +kernel
theorem dX2_readAnswer_59 : decode cX2_readAnswer 59 = .ok (.getfield 12, 3) := by decide +kernel
theorem dX2_readAnswer_62 : decode cX2_readAnswer 62 = .ok (.iconst 2, 1) := by decide +kernel
theorem dX2_readAnswer_63 : decode cX2_readAnswer 63 = .ok (.putfield 187, 3) := by decide +kernel
theorem dX2_readAnswer_66 : decode cX2_readAnswer 66 = .ok (.goto 8, 3) := by decide +kernel
theorem dX2_readAnswer_69 : decode cX2_readAnswer 69 = .ok (.aload_n 0, 1) := by decide +kernel
theorem dX2_readAnswer_70 : decode cX2_readAnswer 70 = .ok (.iconst 1, 1) := by decide +kernel
theorem dX2_readAnswer_71 : decode cX2_readAnswer 71 = .ok (.invokevirtual 155, 3) := by decide +kernel
theorem dX2_readAnswer_74 : decode cX2_readAnswer 74 = .ok (.return_, 1) := by decide +kernel
theorem b_X2_readAnswer_0  {σ : St} {Q : Res → St → Prop} (h : WP mX2_tellOnce 0 [vR 3 0, vI 4] [] σ (CT mX2_readAnswer 5 [vR 3 0] [] Q)) : WP mX2_readAnswer 0 [vR 3 0] [] σ Q := by
  refine wp_aload_n dX2_readAnswer_0 rfl rfl ?_
  refine wp_iconst dX2_readAnswer_1 rfl ?_
  refine wp_invV (N := mX2_tellOnce) [vI 4] dX2_readAnswer_2 ml_CustomValley_Reader_139 mvX2_tellOnce rfl rfl rfl rfl rfl (Nat.le_of_ble_eq_true rfl) (Nat.le_of_ble_eq_true rfl) (by decide) (by decide) (by decide) ?_
  exact h
theorem b_X2_readAnswer_5  {σ : St} {Q : Res → St → Prop} (h : WP mX2_nextToken 0 [vR 3 0, vU] [] σ (CT mX2_readAnswer 9 [vR 3 0] [] Q)) : WP mX2_readAnswer 5 [vR 3 0] [] σ Q := by
  refine wp_aload_n dX2_readAnswer_5 rfl rfl ?_
  refine wp_invV (N := mX2_nextToken) [] dX2_readAnswer_6 ml_CustomValley_Reader_29 mvX2_nextToken rfl rfl rfl rfl rfl (Nat.le_of_ble_eq_true rfl) (Nat.le_of_ble_eq_true rfl) (by decide) (by decide) (by decide) ?_
  exact h
theorem b_X2_readAnswer_9  {σ : St} {Q : Res → St → Prop} (h : WP mX2_isWord 0 [vR 3 0, vR 1001 8, vU] [] σ (CT mX2_readAnswer 15 [vR 3 0] [] Q)) : WP mX2_readAnswer 9 [vR 3 0] [] σ Q := by
  refine wp_aload_n dX2_readAnswer_9 rfl rfl ?_
  refine wp_ldcS (i := 185) (j := 8) (tx := "best") dX2_readAnswer_10 (List.mem_of_getElem? (i := 5) rfl) ?_
  refine wp_invV (N := mX2_isWord) [vR 1001 8] dX2_readAnswer_12 ml_CustomValley_Reader_110 mvX2_isWord rfl rfl rfl rfl rfl (Nat.le_of_ble_eq_true rfl) (Nat.le_of_ble_eq_true rfl) (by decide) (by decide) (by decide) ?_
  exact h
theorem b_X2_readAnswer_15 {t0 : Int} {σ : St} {Q : Res → St → Prop} (h : ((t0 = 0) → (WP mX2_isWord 0 [vR 3 0, vR 1001 9, vU] [] σ (CT mX2_readAnswer 35 [vR 3 0] [] Q))) ∧ ((t0 ≠ 0) → (WP mX2_readAnswer 74 [vU] [] (up σ 10 2 2 0) Q))) : WP mX2_readAnswer 15 [vR 3 0] [vI t0] σ Q := by
  refine wp_if_eq (tgt := 29) dX2_readAnswer_15 (by decide) (fun hc => ?_) (fun hc => ?_)
  · replace h := h.1 hc
    refine wp_aload_n dX2_readAnswer_29 rfl rfl ?_
    refine wp_ldcS (i := 189) (j := 9) (tx := "most") dX2_readAnswer_30 (List.mem_of_getElem? (i := 6) rfl) ?_
    refine wp_invV (N := mX2_isWord) [vR 1001 9] dX2_readAnswer_32 ml_CustomValley_Reader_110 mvX2_isWord rfl rfl rfl rfl rfl (Nat.le_of_ble_eq_true rfl) (Nat.le_of_ble_eq_true rfl) (by decide) (by decide) (by decide) ?_
    exact h
  · replace h := h.2 hc
    refine wp_aload_n dX2_readAnswer_18 rfl rfl ?_
    refine wp_getR dX2_readAnswer_19 fl_CustomValley_Reader_12 rfl rfl ?_
    refine wp_iconst dX2_readAnswer_22 rfl ?_
    refine wp_putI dX2_readAnswer_23 fp_CustomValley_Reader_187 rfl rfl rfl ?_
    refine wp_goto (tgt := 74) dX2_readAnswer_26 (by decide) ?_
    exact wp_drop (als' := [vU]) (lle_c (Or.inr rfl) lle_n) h
theorem b_X2_readAnswer_35 {t0 : Int} {σ : St} {Q : Res → St → Prop} (h : ((t0 = 0) → (WP mX2_isWord 0 [vR 3 0, vR 1001 10, vU] [] σ (CT mX2_readAnswer 55 [vR 3 0] [] Q))) ∧ ((t0 ≠ 0) → (WP mX2_readAnswer 74 [vU] [] (up σ 10 2 2 1) Q))) : WP mX2_readAnswer 35 [vR 3 0] [vI t0] σ Q := by
  refine wp_if_eq (tgt := 49) dX2_readAnswer_35 (by decide) (fun hc => ?_) (fun hc => ?_)
  · replace h := h.1 hc
    refine wp_aload_n dX2_readAnswer_49 rfl rfl ?_
    refine wp_ldcS (i := 191) (j := 10) (tx := "copy") dX2_readAnswer_50 (List.mem_of_getElem? (i := 7) rfl) ?_
    refine wp_invV (N := mX2_isWord) [vR 1001 10] dX2_readAnswer_52 ml_CustomValley_Reader_110 mvX2_isWord rfl rfl rfl rfl rfl (Nat.le_of_ble_eq_true rfl) (Nat.le_of_ble_eq_true rfl) (by decide) (by decide) (by decide) ?_
    exact h
  · replace h := h.2 hc
    refine wp_aload_n dX2_readAnswer_38 rfl rfl ?_
    refine wp_getR dX2_readAnswer_39 fl_CustomValley_Reader_12 rfl rfl ?_
    refine wp_iconst dX2_readAnswer_42 rfl ?_
    refine wp_putI dX2_readAnswer_43 fp_CustomValley_Reader_187 rfl rfl rfl ?_
    refine wp_goto (tgt := 74) dX2_readAnswer_46 (by decide) ?_
    exact wp_drop (als' := [vU]) (lle_c (Or.inr rfl) lle_n) h
theorem b_X2_readAnswer_55 {t0 : Int} {σ : St} {Q : Res → St → Prop} (h : ((t0 = 0) → (WP mX2_fail 0 [vR 3 0, vI 1] [] σ (CT mX2_readAnswer 74 [vU] [] Q))) ∧ ((t0 ≠ 0) → (WP mX2_readAnswer 74 [vU] [] (up σ 10 2 2 2) Q))) : WP mX2_readAnswer 55 [vR 3 0] [vI t0] σ Q := by
  refine wp_if_eq (tgt := 69) dX2_readAnswer_55 (by decide) (fun hc => ?_) (fun hc => ?_)
  · replace h := h.1 hc
    refine wp_aload_n dX2_readAnswer_69 rfl rfl ?_
    refine wp_iconst dX2_readAnswer_70 rfl ?_
    refine wp_invV (N := mX2_fail) [vI 1] dX2_readAnswer_71 ml_CustomValley_Reader_155 mvX2_fail rfl rfl rfl rfl rfl (Nat.le_of_ble_eq_true rfl) (Nat.le_of_ble_eq_true rfl) (by decide) (by decide) (by decide) ?_
    exact WP.mono h (ct_drop (lle_c (Or.inr rfl) lle_n))
  · replace h := h.2 hc
    refine wp_aload_n dX2_readAnswer_58 rfl rfl ?_
    refine wp_getR dX2_readAnswer_59 fl_CustomValley_Reader_12 rfl rfl ?_
    refine wp_iconst dX2_readAnswer_62 rfl ?_
    refine wp_putI dX2_readAnswer_63 fp_CustomValley_Reader_187 rfl rfl rfl ?_
    refine wp_goto (tgt := 74) dX2_readAnswer_66 (by decide) ?_
    exact wp_drop (als' := [vU]) (lle_c (Or.inr rfl) lle_n) h
theorem b_X2_readAnswer_74  {σ : St} {Q : Res → St → Prop} (h : Q (.inl none) σ) : WP mX2_readAnswer 74 [vU] [] σ Q := by
  exact wp_ret dX2_readAnswer_74 rfl h
theorem dX2_readClause_0 : decode cX2_readClause 0 = .ok (.aload_n 0, 1) := by decide +kernel
theorem dX2_readClause_1 : decode cX2_readClause 1 = .ok (.ldc 108, 2) := by decide +kernel
theorem dX2_readClause_3 : decode cX2_readClause 3 = .ok (.invokevirtual 110, 3) := by decide +kernel
theorem dX2_readClause_6 : decode cX2_readClause 6 = .ok (.ifCond .eq 10, 3) := by decide +kernel
theorem dX2_readClause_9 : decode cX2_readClause 9 = .ok (.aload_n 0, 1) := by decide +kernel
theorem dX2_readClause_10 : decode cX2_readClause 10 = .ok (.invokevirtual 114, 3) := by decide +kernel
theorem dX2_readClause_13 : decode cX2_readClause 13 = .ok (.goto 128, 3) := by decide +kernel
theorem dX2_readClause_16 : decode cX2_readClause 16 = .ok (.aload_n 0, 1) := by decide +kernel
theorem dX2_readClause_17 : decode cX2_readClause 17 = .ok (.ldc 117, 2) := by decide +kernel
theorem dX2_readClause_19 : decode cX2_readClause 19 = .ok (.invokevirtual 110, 3) := by decide +kernel
theorem dX2_readClause_22 : decode cX2_readClause 22 = .ok (.ifCond .eq 10, 3) := by decide +kernel
theorem dX2_readClause_25 : decode cX2_readClause 25 = .ok (.aload_n 0, 1) := by decide +kernel
theorem dX2_readClause_26 : decode cX2_readClause 26 = .ok (.invokevirtual 119, 3) := by decide +kernel
theorem dX2_readClause_29 : decode cX2_readClause 29 = .ok (.goto 112, 3) := by decide +kernel
theorem dX2_readClause_32 : decode cX2_readClause 32 = .ok (.aload_n 0, 1) := by decide +kernel
theorem dX2_readClause_33 : decode cX2_readClause 33 = .ok (.ldc 122, 2) := by decide +kernel
theorem dX2_readClause_35 : decode cX2_readClause 35 = .ok (.invokevirtual 110, 3) := by decide +kernel
theorem dX2_readClause_38 : decode cX2_readClause 38 = .ok (.ifCond .eq 10, 3) := by decide +kernel
theorem dX2_readClause_41 : decode cX2_readClause 41 = .ok (.aload_n 0, 1) := by decide +kernel
theorem dX2_readClause_42 : decode cX2_readClause 42 = .ok (.invokevirtual 124, 3) := by decide +kernel
theorem dX2_readClause_45 : decode cX2_readClause 45 = .ok (.goto 96, 3) := by decide +kernel
theorem dX2_readClause_48 : decode cX2_readClause 48 = .ok (.aload_n 0, 1) := by decide +kernel
theorem dX2_readClause_49 : decode cX2_readClause 49 = .ok (.ldc 127, 2) := by decide +kernel
theorem dX2_readClause_51 : decode cX2_readClause 51 = .ok (.invokevirtual 110, 3) := by decide +kernel
theorem dX2_readClause_54 : decode cX2_readClause 54 = .ok (.ifCond .eq 8, 3) := by decide +kernel
theorem dX2_readClause_57 : decode cX2_readClause 57 = .ok (.aload_n 0, 1) := by decide +kernel
theorem dX2_readClause_58 : decode cX2_readClause 58 = .ok (.invokevirtual 129, 3) := by decide +kernel
theorem dX2_readClause_61 : decode cX2_readClause 61 = .ok (.return_, 1) := by decide +kernel
theorem dX2_readClause_62 : decode cX2_readClause 62 = .ok (.aload_n 0, 1) := by decide +kernel
theorem dX2_readClause_63 : decode cX2_readClause 63 = .ok (.ldc 132, 2) := by decide +kernel
theorem dX2_readClause_65 : decode cX2_readClause 65 = .ok (.invokevirtual 110, 3) := by decide +kernel
theorem dX2_readClause_68 : decode cX2_readClause 68 = .ok (.ifCond .eq 10, 3) := by decide +kernel
theorem dX2_readClause_71 : decode cX2_readClause 71 = .ok (.aload_n 0, 1) := by decide +kernel
theorem dX2_readClause_72 : decode cX2_readClause 72 = .ok (.invokevirtual 134, 3) := by decide +kernel
theorem dX2_readClause_75 : decode cX2_readClause 75 = .ok (.goto 66, 3) := by decide +kernel
theorem dX2_readClause_78 : decode cX2_readClause 78 = .ok (.aload_n 0, 1) := by decide +kernel
theorem dX2_readClause_79 : decode cX2_readClause 79 = .ok (.ldc 137, 2) := by decide +kernel
theorem dX2_readClause_81 : decode cX2_readClause 81 = .ok (.invokevirtual 110, 3) := by decide +kernel
theorem dX2_readClause_84 : decode cX2_readClause 84 = .ok (.ifCond .eq 20, 3) := by decide +kernel
theorem dX2_readClause_87 : decode cX2_readClause 87 = .ok (.aload_n 0, 1) := by decide +kernel
theorem dX2_readClause_88 : decode cX2_readClause 88 = .ok (.bipush 8, 2) := by decide +kernel
theorem dX2_readClause_90 : decode cX2_readClause 90 = .ok (.invokevirtual 139, 3) := by decide +kernel
theorem dX2_readClause_93 : decode cX2_readClause 93 = .ok (.aload_n 0, 1) := by decide +kernel
theorem dX2_readClause_94 : decode cX2_readClause 94 = .ok (.getfield 12, 3) := by decide +kernel
theorem dX2_readClause_97 : decode cX2_readClause 97 = .ok (.iconst 1, 1) := by decide +kernel
theorem dX2_readClause_98 : decode cX2_readClause 98 = .ok (.putfield 143, 3) := by decide +kernel
theorem dX2_readClause_101 : decode cX2_readClause 101 = .ok (.goto 40, 3) := by decide +kernel
theorem dX2_readClause_104 : decode cX2_readClause 104 = .ok (.aload_n 0, 1) := by decide +kernel
theorem dX2_readClause_105 : decode cX2_readClause 105 = .ok (.ldc 145, 2) := by decide +kernel
theorem dX2_readClause_107 : decode cX2_readClause 107 = .ok (.invokevirtual 110, 3) := by decide +kernel
theorem dX2_readClause_110 : decode cX2_readClause 110 = .ok (.ifCond .eq 10, 3) := by decide +kernel
theorem dX2_readClause_113 : decode cX2_readClause 113 = .ok (.aload_n 0, 1) := by decide +kernel
theorem dX2_readClause_114 : decode cX2_readClause 114 = .ok (.invokevirtual 147, 3) := by decide +kernel
theorem dX2_readClause_117 : decode cX2_readClause 117 = .ok (.goto 24, 3) := by decide +kernel
theorem dX2_readClause_120 : decode cX2_readClause 120 = .ok (.aload_n 0, 1) := by decide +kernel
theorem dX2_readClause_121 : decode cX2_readClause 121 = .ok (.ldc 150, 2) := by decide +kernel
theorem dX2_readClause_123 : decode cX2_readClause 123 = .ok (.invokevirtual 110, 3) := by decide +kernel
theorem dX2_readClause_126 : decode cX2_readClause 126 = .ok (.ifCond .eq 10, 3) := by decide +kernel
theorem dX2_readClause_129 : decode cX2_readClause 129 = .ok (.aload_n 0, 1) := by decide +kernel
theorem dX2_readClause_130 : decode cX2_readClause 130 = .ok (.invokevirtual 152, 3) := by decide +kernel
theorem dX2_readClause_133 : decode cX2_readClause 133 = .ok (.goto 8, 3) := by decide +kernel
theorem dX2_readClause_136 : decode cX2_readClause 136 = .ok (.aload_n 0, 1) := by decide +kernel
theorem dX2_readClause_137 : decode cX2_readClause 137 = .ok (.iconst 1, 1) := by decide +kernel
theorem dX2_readClause_138 : decode cX2_readClause 138 = .ok (.invokevirtual 155, 3) := by decide +kernel
theorem dX2_readClause_141 : decode cX2_readClause 141 = .ok (.aload_n 0, 1) := by decide +kernel
theorem dX2_readClause_142 : decode cX2_readClause 142 = .ok (.invokevirtual 29, 3) := by decide +kernel
theorem dX2_readClause_145 : decode cX2_readClause 145 = .ok (.aload_n 0, 1) := by decide +kernel
theorem dX2_readClause_146 : decode cX2_readClause 146 = .ok (.invokevirtual 158, 3) := by decide +kernel
theorem dX2_readClause_149 : decode cX2_readClause 149 = .ok (.return_, 1) := by decide +kernel
theorem b_X2_readClause_0  {σ : St} {Q : Res → St → Prop} (h : WP mX2_isWord 0 [vR 3 0, vR 1001 0, vU] [] σ (CT mX2_readClause 6 [vR 3 0] [] Q)) : WP mX2_readClause 0 [vR 3 0] [] σ Q := by
  refine wp_aload_n dX2_readClause_0 rfl rfl ?_
  refine wp_ldcS (i := 108) (j := 0) (tx := "people") dX2_readClause_1 (List.mem_of_getElem? (i := 0) rfl) ?_
  refine wp_invV (N := mX2_isWord) [vR 1001 0] dX2_readClause_3 ml_CustomValley_Reader_110 mvX2_isWord rfl rfl rfl rfl rfl (Nat.le_of_ble_eq_true rfl) (Nat.le_of_ble_eq_true rfl) (by decide) (by decide) (by decide) ?_
  exact h
theorem b_X2_readClause_6 {t0 : Int} {σ : St} {Q : Res → St → Prop} (h : ((t0 = 0) → (WP mX2_isWord 0 [vR 3 0, vR 1001 1, vU] [] σ (CT mX2_readClause 22 [vR 3 0] [] Q))) ∧ ((t0 ≠ 0) → (WP mX2_readPeople 0 [vR 3 0, vU] [] σ (CT mX2_readClause 13 [vR 3 0] [] Q)))) : WP mX2_readClause 6 [vR 3 0] [vI t0] σ Q := by
  refine wp_if_eq (tgt := 16) dX2_readClause_6 (by decide) (fun hc => ?_) (fun hc => ?_)
  · replace h := h.1 hc
    refine wp_aload_n dX2_readClause_16 rfl rfl ?_
    refine wp_ldcS (i := 117) (j := 1) (tx := "habits") dX2_readClause_17 (List.mem_of_getElem? (i := 1) rfl) ?_
    refine wp_invV (N := mX2_isWord) [vR 1001 1] dX2_readClause_19 ml_CustomValley_Reader_110 mvX2_isWord rfl rfl rfl rfl rfl (Nat.le_of_ble_eq_true rfl) (Nat.le_of_ble_eq_true rfl) (by decide) (by decide) (by decide) ?_
    exact h
  · replace h := h.2 hc
    refine wp_aload_n dX2_readClause_9 rfl rfl ?_
    refine wp_invV (N := mX2_readPeople) [] dX2_readClause_10 ml_CustomValley_Reader_114 mvX2_readPeople rfl rfl rfl rfl rfl (Nat.le_of_ble_eq_true rfl) (Nat.le_of_ble_eq_true rfl) (by decide) (by decide) (by decide) ?_
    exact h
theorem b_X2_readClause_13  {σ : St} {Q : Res → St → Prop} (h : WP mX2_readClause 141 [vR 3 0] [] σ Q) : WP mX2_readClause 13 [vR 3 0] [] σ Q := by
  refine wp_goto (tgt := 141) dX2_readClause_13 (by decide) ?_
  exact h
theorem b_X2_readClause_22 {t0 : Int} {σ : St} {Q : Res → St → Prop} (h : ((t0 = 0) → (WP mX2_isWord 0 [vR 3 0, vR 1001 2, vU] [] σ (CT mX2_readClause 38 [vR 3 0] [] Q))) ∧ ((t0 ≠ 0) → (WP mX2_readHabits 0 [vR 3 0, vU] [] σ (CT mX2_readClause 29 [vR 3 0] [] Q)))) : WP mX2_readClause 22 [vR 3 0] [vI t0] σ Q := by
  refine wp_if_eq (tgt := 32) dX2_readClause_22 (by decide) (fun hc => ?_) (fun hc => ?_)
  · replace h := h.1 hc
    refine wp_aload_n dX2_readClause_32 rfl rfl ?_
    refine wp_ldcS (i := 122) (j := 2) (tx := "worth") dX2_readClause_33 (List.mem_of_getElem? (i := 2) rfl) ?_
    refine wp_invV (N := mX2_isWord) [vR 1001 2] dX2_readClause_35 ml_CustomValley_Reader_110 mvX2_isWord rfl rfl rfl rfl rfl (Nat.le_of_ble_eq_true rfl) (Nat.le_of_ble_eq_true rfl) (by decide) (by decide) (by decide) ?_
    exact h
  · replace h := h.2 hc
    refine wp_aload_n dX2_readClause_25 rfl rfl ?_
    refine wp_invV (N := mX2_readHabits) [] dX2_readClause_26 ml_CustomValley_Reader_119 mvX2_readHabits rfl rfl rfl rfl rfl (Nat.le_of_ble_eq_true rfl) (Nat.le_of_ble_eq_true rfl) (by decide) (by decide) (by decide) ?_
    exact h
theorem b_X2_readClause_29  {σ : St} {Q : Res → St → Prop} (h : WP mX2_readClause 141 [vR 3 0] [] σ Q) : WP mX2_readClause 29 [vR 3 0] [] σ Q := by
  refine wp_goto (tgt := 141) dX2_readClause_29 (by decide) ?_
  exact h
theorem b_X2_readClause_38 {t0 : Int} {σ : St} {Q : Res → St → Prop} (h : ((t0 = 0) → (WP mX2_isWord 0 [vR 3 0, vR 1001 3, vU] [] σ (CT mX2_readClause 54 [vR 3 0] [] Q))) ∧ ((t0 ≠ 0) → (WP mX2_readWorth 0 [vR 3 0, vU, vU, vU] [] σ (CT mX2_readClause 45 [vR 3 0] [] Q)))) : WP mX2_readClause 38 [vR 3 0] [vI t0] σ Q := by
  refine wp_if_eq (tgt := 48) dX2_readClause_38 (by decide) (fun hc => ?_) (fun hc => ?_)
  · replace h := h.1 hc
    refine wp_aload_n dX2_readClause_48 rfl rfl ?_
    refine wp_ldcS (i := 127) (j := 3) (tx := "meets") dX2_readClause_49 (List.mem_of_getElem? (i := 3) rfl) ?_
    refine wp_invV (N := mX2_isWord) [vR 1001 3] dX2_readClause_51 ml_CustomValley_Reader_110 mvX2_isWord rfl rfl rfl rfl rfl (Nat.le_of_ble_eq_true rfl) (Nat.le_of_ble_eq_true rfl) (by decide) (by decide) (by decide) ?_
    exact h
  · replace h := h.2 hc
    refine wp_aload_n dX2_readClause_41 rfl rfl ?_
    refine wp_invV (N := mX2_readWorth) [] dX2_readClause_42 ml_CustomValley_Reader_124 mvX2_readWorth rfl rfl rfl rfl rfl (Nat.le_of_ble_eq_true rfl) (Nat.le_of_ble_eq_true rfl) (by decide) (by decide) (by decide) ?_
    exact h
theorem b_X2_readClause_45  {σ : St} {Q : Res → St → Prop} (h : WP mX2_readClause 141 [vR 3 0] [] σ Q) : WP mX2_readClause 45 [vR 3 0] [] σ Q := by
  refine wp_goto (tgt := 141) dX2_readClause_45 (by decide) ?_
  exact h
theorem b_X2_readClause_54 {t0 : Int} {σ : St} {Q : Res → St → Prop} (h : ((t0 = 0) → (WP mX2_isWord 0 [vR 3 0, vR 1001 4, vU] [] σ (CT mX2_readClause 68 [vR 3 0] [] Q))) ∧ ((t0 ≠ 0) → (WP mX2_readMeets 0 [vR 3 0, vU, vU, vU] [] σ (CT mX2_readClause 61 [vU] [] Q)))) : WP mX2_readClause 54 [vR 3 0] [vI t0] σ Q := by
  refine wp_if_eq (tgt := 62) dX2_readClause_54 (by decide) (fun hc => ?_) (fun hc => ?_)
  · replace h := h.1 hc
    refine wp_aload_n dX2_readClause_62 rfl rfl ?_
    refine wp_ldcS (i := 132) (j := 4) (tx := "answer") dX2_readClause_63 (List.mem_of_getElem? (i := 4) rfl) ?_
    refine wp_invV (N := mX2_isWord) [vR 1001 4] dX2_readClause_65 ml_CustomValley_Reader_110 mvX2_isWord rfl rfl rfl rfl rfl (Nat.le_of_ble_eq_true rfl) (Nat.le_of_ble_eq_true rfl) (by decide) (by decide) (by decide) ?_
    exact h
  · replace h := h.2 hc
    refine wp_aload_n dX2_readClause_57 rfl rfl ?_
    refine wp_invV (N := mX2_readMeets) [] dX2_readClause_58 ml_CustomValley_Reader_129 mvX2_readMeets rfl rfl rfl rfl rfl (Nat.le_of_ble_eq_true rfl) (Nat.le_of_ble_eq_true rfl) (by decide) (by decide) (by decide) ?_
    exact WP.mono h (ct_drop (lle_c (Or.inr rfl) lle_n))
theorem b_X2_readClause_61  {σ : St} {Q : Res → St → Prop} (h : Q (.inl none) σ) : WP mX2_readClause 61 [vU] [] σ Q := by
  exact wp_ret dX2_readClause_61 rfl h
theorem b_X2_readClause_68 {t0 : Int} {σ : St} {Q : Res → St → Prop} (h : ((t0 = 0) → (WP mX2_isWord 0 [vR 3 0, vR 1001 5, vU] [] σ (CT mX2_readClause 84 [vR 3 0] [] Q))) ∧ ((t0 ≠ 0) → (WP mX2_readAnswer 0 [vR 3 0] [] σ (CT mX2_readClause 75 [vR 3 0] [] Q)))) : WP mX2_readClause 68 [vR 3 0] [vI t0] σ Q := by
  refine wp_if_eq (tgt := 78) dX2_readClause_68 (by decide) (fun hc => ?_) (fun hc => ?_)
  · replace h := h.1 hc
    refine wp_aload_n dX2_readClause_78 rfl rfl ?_
    refine wp_ldcS (i := 137) (j := 5) (tx := "stays") dX2_readClause_79 (List.mem_of_getElem? (i := 8) rfl) ?_
    refine wp_invV (N := mX2_isWord) [vR 1001 5] dX2_readClause_81 ml_CustomValley_Reader_110 mvX2_isWord rfl rfl rfl rfl rfl (Nat.le_of_ble_eq_true rfl) (Nat.le_of_ble_eq_true rfl) (by decide) (by decide) (by decide) ?_
    exact h
  · replace h := h.2 hc
    refine wp_aload_n dX2_readClause_71 rfl rfl ?_
    refine wp_invV (N := mX2_readAnswer) [] dX2_readClause_72 ml_CustomValley_Reader_134 mvX2_readAnswer rfl rfl rfl rfl rfl (Nat.le_of_ble_eq_true rfl) (Nat.le_of_ble_eq_true rfl) (by decide) (by decide) (by decide) ?_
    exact h
theorem b_X2_readClause_75  {σ : St} {Q : Res → St → Prop} (h : WP mX2_readClause 141 [vR 3 0] [] σ Q) : WP mX2_readClause 75 [vR 3 0] [] σ Q := by
  refine wp_goto (tgt := 141) dX2_readClause_75 (by decide) ?_
  exact h
theorem b_X2_readClause_84 {t0 : Int} {σ : St} {Q : Res → St → Prop} (h : ((t0 = 0) → (WP mX2_isWord 0 [vR 3 0, vR 1001 6, vU] [] σ (CT mX2_readClause 110 [vR 3 0] [] Q))) ∧ ((t0 ≠ 0) → (WP mX2_tellOnce 0 [vR 3 0, vI 8] [] σ (CT mX2_readClause 93 [vR 3 0] [] Q)))) : WP mX2_readClause 84 [vR 3 0] [vI t0] σ Q := by
  refine wp_if_eq (tgt := 104) dX2_readClause_84 (by decide) (fun hc => ?_) (fun hc => ?_)
  · replace h := h.1 hc
    refine wp_aload_n dX2_readClause_104 rfl rfl ?_
    refine wp_ldcS (i := 145) (j := 6) (tx := "keeps") dX2_readClause_105 (List.mem_of_getElem? (i := 9) rfl) ?_
    refine wp_invV (N := mX2_isWord) [vR 1001 6] dX2_readClause_107 ml_CustomValley_Reader_110 mvX2_isWord rfl rfl rfl rfl rfl (Nat.le_of_ble_eq_true rfl) (Nat.le_of_ble_eq_true rfl) (by decide) (by decide) (by decide) ?_
    exact h
  · replace h := h.2 hc
    refine wp_aload_n dX2_readClause_87 rfl rfl ?_
    refine wp_bipush dX2_readClause_88 rfl ?_
    refine wp_invV (N := mX2_tellOnce) [vI 8] dX2_readClause_90 ml_CustomValley_Reader_139 mvX2_tellOnce rfl rfl rfl rfl rfl (Nat.le_of_ble_eq_true rfl) (Nat.le_of_ble_eq_true rfl) (by decide) (by decide) (by decide) ?_
    exact h
theorem b_X2_readClause_93  {σ : St} {Q : Res → St → Prop} (h : WP mX2_readClause 141 [vR 3 0] [] (up σ 10 2 3 1) Q) : WP mX2_readClause 93 [vR 3 0] [] σ Q := by
  refine wp_aload_n dX2_readClause_93 rfl rfl ?_
  refine wp_getR dX2_readClause_94 fl_CustomValley_Reader_12 rfl rfl ?_
  refine wp_iconst dX2_readClause_97 rfl ?_
  refine wp_putZ dX2_readClause_98 fp_CustomValley_Reader_143 rfl rfl rfl (by decide) ?_
  refine wp_goto (tgt := 141) dX2_readClause_101 (by decide) ?_
  exact h
theorem b_X2_readClause_110 {t0 : Int} {σ : St} {Q : Res → St → Prop} (h : ((t0 = 0) → (WP mX2_isWord 0 [vR 3 0, vR 1001 7, vU] [] σ (CT mX2_readClause 126 [vR 3 0] [] Q))) ∧ ((t0 ≠ 0) → (WP mX2_readKeeps 0 [vR 3 0, vU] [] σ (CT mX2_readClause 117 [vR 3 0] [] Q)))) : WP mX2_readClause 110 [vR 3 0] [vI t0] σ Q := by
  refine wp_if_eq (tgt := 120) dX2_readClause_110 (by decide) (fun hc => ?_) (fun hc => ?_)
  · replace h := h.1 hc
    refine wp_aload_n dX2_readClause_120 rfl rfl ?_
    refine wp_ldcS (i := 150) (j := 7) (tx := "slip") dX2_readClause_121 (List.mem_of_getElem? (i := 10) rfl) ?_
    refine wp_invV (N := mX2_isWord) [vR 1001 7] dX2_readClause_123 ml_CustomValley_Reader_110 mvX2_isWord rfl rfl rfl rfl rfl (Nat.le_of_ble_eq_true rfl) (Nat.le_of_ble_eq_true rfl) (by decide) (by decide) (by decide) ?_
    exact h
  · replace h := h.2 hc
    refine wp_aload_n dX2_readClause_113 rfl rfl ?_
    refine wp_invV (N := mX2_readKeeps) [] dX2_readClause_114 ml_CustomValley_Reader_147 mvX2_readKeeps rfl rfl rfl rfl rfl (Nat.le_of_ble_eq_true rfl) (Nat.le_of_ble_eq_true rfl) (by decide) (by decide) (by decide) ?_
    exact h
theorem b_X2_readClause_117  {σ : St} {Q : Res → St → Prop} (h : WP mX2_readClause 141 [vR 3 0] [] σ Q) : WP mX2_readClause 117 [vR 3 0] [] σ Q := by
  refine wp_goto (tgt := 141) dX2_readClause_117 (by decide) ?_
  exact h
theorem b_X2_readClause_126 {t0 : Int} {σ : St} {Q : Res → St → Prop} (h : ((t0 = 0) → (WP mX2_fail 0 [vR 3 0, vI 1] [] σ (CT mX2_readClause 141 [vR 3 0] [] Q))) ∧ ((t0 ≠ 0) → (WP mX2_readSlip 0 [vR 3 0, vU] [] σ (CT mX2_readClause 133 [vR 3 0] [] Q)))) : WP mX2_readClause 126 [vR 3 0] [vI t0] σ Q := by
  refine wp_if_eq (tgt := 136) dX2_readClause_126 (by decide) (fun hc => ?_) (fun hc => ?_)
  · replace h := h.1 hc
    refine wp_aload_n dX2_readClause_136 rfl rfl ?_
    refine wp_iconst dX2_readClause_137 rfl ?_
    refine wp_invV (N := mX2_fail) [vI 1] dX2_readClause_138 ml_CustomValley_Reader_155 mvX2_fail rfl rfl rfl rfl rfl (Nat.le_of_ble_eq_true rfl) (Nat.le_of_ble_eq_true rfl) (by decide) (by decide) (by decide) ?_
    exact h
  · replace h := h.2 hc
    refine wp_aload_n dX2_readClause_129 rfl rfl ?_
    refine wp_invV (N := mX2_readSlip) [] dX2_readClause_130 ml_CustomValley_Reader_152 mvX2_readSlip rfl rfl rfl rfl rfl (Nat.le_of_ble_eq_true rfl) (Nat.le_of_ble_eq_true rfl) (by decide) (by decide) (by decide) ?_
    exact h
theorem b_X2_readClause_133  {σ : St} {Q : Res → St → Prop} (h : WP mX2_readClause 141 [vR 3 0] [] σ Q) : WP mX2_readClause 133 [vR 3 0] [] σ Q := by
  refine wp_goto (tgt := 141) dX2_readClause_133 (by decide) ?_
  exact h
theorem b_X2_readClause_141  {σ : St} {Q : Res → St → Prop} (h : WP mX2_nextToken 0 [vR 3 0, vU] [] σ (CT mX2_readClause 145 [vR 3 0] [] Q)) : WP mX2_readClause 141 [vR 3 0] [] σ Q := by
  refine wp_aload_n dX2_readClause_141 rfl rfl ?_
  refine wp_invV (N := mX2_nextToken) [] dX2_readClause_142 ml_CustomValley_Reader_29 mvX2_nextToken rfl rfl rfl rfl rfl (Nat.le_of_ble_eq_true rfl) (Nat.le_of_ble_eq_true rfl) (by decide) (by decide) (by decide) ?_
  exact h
theorem b_X2_readClause_145  {σ : St} {Q : Res → St → Prop} (h : WP mX2_endClause 0 [vR 3 0] [] σ (CT mX2_readClause 149 [vU] [] Q)) : WP mX2_readClause 145 [vR 3 0] [] σ Q := by
  refine wp_aload_n dX2_readClause_145 rfl rfl ?_
  refine wp_invV (N := mX2_endClause) [] dX2_readClause_146 ml_CustomValley_Reader_158 mvX2_endClause rfl rfl rfl rfl rfl (Nat.le_of_ble_eq_true rfl) (Nat.le_of_ble_eq_true rfl) (by decide) (by decide) (by decide) ?_
  exact WP.mono h (ct_drop (lle_c (Or.inr rfl) lle_n))
theorem b_X2_readClause_149  {σ : St} {Q : Res → St → Prop} (h : Q (.inl none) σ) : WP mX2_readClause 149 [vU] [] σ Q := by
  exact wp_ret dX2_readClause_149 rfl h
theorem dX2_readValley_0 : decode cX2_readValley 0 = .ok (.aload_n 0, 1) := by decide +kernel
theorem dX2_readValley_1 : decode cX2_readValley 1 = .ok (.invokevirtual 26, 3) := by decide +kernel
theorem dX2_readValley_4 : decode cX2_readValley 4 = .ok (.aload_n 0, 1) := by decide +kernel
theorem dX2_readValley_5 : decode cX2_readValley 5 = .ok (.invokevirtual 29, 3) := by decide +kernel
theorem dX2_readValley_8 : decode cX2_readValley 8 = .ok (.iconst 0, 1) := by decide +kernel
theorem dX2_readValley_9 : decode cX2_readValley 9 = .ok (.istore_n 1, 1) := by decide +kernel
theorem dX2_readValley_10 : decode cX2_readValley 10 = .ok (.iload_n 1, 1) := by decide +kernel
theorem dX2_readValley_11 : decode cX2_readValley 11 = .ok (.sipush 700, 3) := by decide +kernel
theorem dX2_readValley_14 : decode cX2_readValley 14 = .ok (.if_icmp .ge 44, 3) := by decide +kernel
theorem dX2_readValley_17 : decode cX2_readValley 17 = .ok (.aload_n 0, 1) := by decide +kernel
theorem dX2_readValley_18 : decode cX2_readValley 18 = .ok (.getfield 32, 3) := by decide +kernel
theorem dX2_readValley_21 : decode cX2_readValley 21 = .ok (.ifCond .ne 37, 3) := by decide +kernel
theorem dX2_readValley_24 : decode cX2_readValley 24 = .ok (.aload_n 0, 1) := by decide +kernel
theorem dX2_readValley_25 : decode cX2_readValley 25 = .ok (.getfield 35, 3) := by decide +kernel
theorem dX2_readValley_28 : decode cX2_readValley 28 = .ok (.ifCond .eq 30, 3) := by decide +kernel
theorem dX2_readValley_31 : decode cX2_readValley 31 = .ok (.aload_n 0, 1) := by decide +kernel
theorem dX2_readValley_32 : decode cX2_readValley 32 = .ok (.invokevirtual 38, 3) := by decide +kernel
theorem dX2_readValley_35 : decode cX2_readValley 35 = .ok (.aload_n 0, 1) := by decide +kernel
theorem dX2_readValley_36 : decode cX2_readValley 36 = .ok (.getfield 12, 3) := by decide +kernel
theorem dX2_readValley_39 : decode cX2_readValley 39 = .ok (.dup, 1) := by decide +kernel
theorem dX2_readValley_40 : decode cX2_readValley 40 = .ok (.getfield 41, 3) := by decide +kernel
theorem dX2_readValley_43 : decode cX2_readValley 43 = .ok (.iconst 1, 1) := by decide +kernel
theorem dX2_readValley_44 : decode cX2_readValley 44 = .ok (.iadd, 1) := by decide +kernel
theorem dX2_readValley_45 : decode cX2_readValley 45 = .ok (.putfield 41, 3) := by decide +kernel
theorem dX2_readValley_48 : decode cX2_readValley 48 = .ok (.aload_n 0, 1) := by decide +kernel
theorem dX2_readValley_49 : decode cX2_readValley 49 = .ok (.invokevirtual 29, 3) := by decide +kernel
theorem dX2_readValley_52 : decode cX2_readValley 52 = .ok (.iinc 1 1, 3) := by decide +kernel
theorem dX2_readValley_55 : decode cX2_readValley 55 = .ok (.goto (-45), 3) := by decide +kernel
theorem dX2_readValley_58 : decode cX2_readValley 58 = .ok (.aload_n 0, 1) := by decide +kernel
theorem dX2_readValley_59 : decode cX2_readValley 59 = .ok (.getfield 32, 3) := by decide +kernel
theorem dX2_readValley_62 : decode cX2_readValley 62 = .ok (.ifCond .ne 27, 3) := by decide +kernel
theorem dX2_readValley_65 : decode cX2_readValley 65 = .ok (.aload_n 0, 1) := by decide +kernel
theorem dX2_readValley_66 : decode cX2_readValley 66 = .ok (.getfield 44, 3) := by decide +kernel
theorem dX2_readValley_69 : decode cX2_readValley 69 = .ok (.bipush 16, 2) := by decide +kernel
theorem dX2_readValley_71 : decode cX2_readValley 71 = .ok (.iand, 1) := by decide +kernel
theorem dX2_readValley_72 : decode cX2_readValley 72 = .ok (.ifCond .ne 10, 3) := by decide +kernel
theorem dX2_readValley_75 : decode cX2_readValley 75 = .ok (.aload_n 0, 1) := by decide +kernel
theorem dX2_readValley_76 : decode cX2_readValley 76 = .ok (.getfield 12, 3) := by decide +kernel
theorem dX2_readValley_79 : decode cX2_readValley 79 = .ok (.invokevirtual 47, 3) := by decide +kernel
theorem dX2_readValley_82 : decode cX2_readValley 82 = .ok (.aload_n 0, 1) := by decide +kernel
theorem dX2_readValley_83 : decode cX2_readValley 83 = .ok (.getfield 12, 3) := by decide +kernel
theorem dX2_readValley_86 : decode cX2_readValley 86 = .ok (.invokevirtual 50, 3) := by decide +kernel
theorem dX2_readValley_89 : decode cX2_readValley 89 = .ok (.return_, 1) := by decide +kernel
theorem b_X2_readValley_0  {σ : St} {Q : Res → St → Prop} (h : WP mX2_begin 0 [vR 3 0] [] σ (CT mX2_readValley 4 [vR 3 0, vU] [] Q)) : WP mX2_readValley 0 [vR 3 0, vU] [] σ Q := by
  refine wp_aload_n dX2_readValley_0 rfl rfl ?_
  refine wp_invV (N := mX2_begin) [] dX2_readValley_1 ml_CustomValley_Reader_26 mvX2_begin rfl rfl rfl rfl rfl (Nat.le_of_ble_eq_true rfl) (Nat.le_of_ble_eq_true rfl) (by decide) (by decide) (by decide) ?_
  exact h
theorem b_X2_readValley_4  {σ : St} {Q : Res → St → Prop} (h : WP mX2_nextToken 0 [vR 3 0, vU] [] σ (CT mX2_readValley 8 [vR 3 0, vU] [] Q)) : WP mX2_readValley 4 [vR 3 0, vU] [] σ Q := by
  refine wp_aload_n dX2_readValley_4 rfl rfl ?_
  refine wp_invV (N := mX2_nextToken) [] dX2_readValley_5 ml_CustomValley_Reader_29 mvX2_nextToken rfl rfl rfl rfl rfl (Nat.le_of_ble_eq_true rfl) (Nat.le_of_ble_eq_true rfl) (by decide) (by decide) (by decide) ?_
  exact h
theorem b_X2_readValley_8  {σ : St} {Q : Res → St → Prop} (h : WP mX2_readValley 10 [vR 3 0, vI 0] [] σ Q) : WP mX2_readValley 8 [vR 3 0, vU] [] σ Q := by
  refine wp_iconst dX2_readValley_8 rfl ?_
  refine wp_istore_n dX2_readValley_9 rfl (by decide) rfl rfl ?_
  exact h
theorem b_X2_readValley_10 {x1 : Int} {σ : St} {Q : Res → St → Prop} (h : ((700 ≤ x1) → ((((σ 3 0 2) ≠ 0) → (WP mX2_readValley 89 [vU, vU] [] σ Q)) ∧ (((σ 3 0 2) = 0) → ((((band (σ 3 0 8) 16) ≠ 0) → (WP mX2_readValley 82 [vR 3 0, vU] [] σ Q)) ∧ (((band (σ 3 0 8) 16) = 0) → (WP mX9_meetAll 0 [vR 10 2, vU] [] σ (CT mX2_readValley 82 [vR 3 0, vU] [] Q))))))) ∧ ((x1 < 700) → ((((σ 3 0 2) ≠ 0) → ((((σ 3 0 2) ≠ 0) → (WP mX2_readValley 89 [vU, vU] [] σ Q)) ∧ (((σ 3 0 2) = 0) → ((((band (σ 3 0 8) 16) ≠ 0) → (WP mX2_readValley 82 [vR 3 0, vU] [] σ Q)) ∧ (((band (σ 3 0 8) 16) = 0) → (WP mX9_meetAll 0 [vR 10 2, vU] [] σ (CT mX2_readValley 82 [vR 3 0, vU] [] Q))))))) ∧ (((σ 3 0 2) = 0) → ((((σ 3 0 5) = 0) → ((((σ 3 0 2) ≠ 0) → (WP mX2_readValley 89 [vU, vU] [] σ Q)) ∧ (((σ 3 0 2) = 0) → ((((band (σ 3 0 8) 16) ≠ 0) → (WP mX2_readValley 82 [vR 3 0, vU] [] σ Q)) ∧ (((band (σ 3 0 8) 16) = 0) → (WP mX9_meetAll 0 [vR 10 2, vU] [] σ (CT mX2_readValley 82 [vR 3 0, vU] [] Q))))))) ∧ (((σ 3 0 5) ≠ 0) → (WP mX2_readClause 0 [vR 3 0] [] σ (CT mX2_readValley 35 [vR 3 0, vI x1] [] Q)))))))) : WP mX2_readValley 10 [vR 3 0, vI x1] [] σ Q := by
  refine wp_iload_n dX2_readValley_10 rfl rfl ?_
  refine wp_sipush dX2_readValley_11 rfl ?_
  refine wp_icmp_ge (tgt := 58) dX2_readValley_14 (by decide) (fun hc => ?_) (fun hc => ?_)
  · replace h := h.1 hc
    refine wp_aload_n dX2_readValley_58 rfl rfl ?_
    refine wp_getI dX2_readValley_59 fl_CustomValley_Reader_32 rfl rfl rfl ?_
    refine wp_if_ne (tgt := 89) dX2_readValley_62 (by decide) (fun hc => ?_) (fun hc => ?_)
    · replace h := h.1 hc
      exact wp_drop (als' := [vU, vU]) (lle_c (Or.inr rfl) (lle_c (Or.inr rfl) lle_n)) h
    · replace h := h.2 hc
      refine wp_aload_n dX2_readValley_65 rfl rfl ?_
      refine wp_getI dX2_readValley_66 fl_CustomValley_Reader_44 rfl rfl rfl ?_
      refine wp_bipush dX2_readValley_69 rfl ?_
      refine wp_iand dX2_readValley_71 ?_
      refine wp_if_ne (tgt := 82) dX2_readValley_72 (by decide) (fun hc => ?_) (fun hc => ?_)
      · replace h := h.1 hc
        exact wp_drop (als' := [vR 3 0, vU]) (lle_c (Or.inl rfl) (lle_c (Or.inr rfl) lle_n)) h
      · replace h := h.2 hc
        refine wp_aload_n dX2_readValley_75 rfl rfl ?_
        refine wp_getR dX2_readValley_76 fl_CustomValley_Reader_12 rfl rfl ?_
        refine wp_invV (N := mX9_meetAll) [] dX2_readValley_79 ml_CustomValley_Reader_47 mvX9_meetAll rfl rfl rfl rfl rfl (Nat.le_of_ble_eq_true rfl) (Nat.le_of_ble_eq_true rfl) (by decide) (by decide) (by decide) ?_
        exact WP.mono h (ct_drop (lle_c (Or.inl rfl) (lle_c (Or.inr rfl) lle_n)))
  · replace h := h.2 hc
    refine wp_aload_n dX2_readValley_17 rfl rfl ?_
    refine wp_getI dX2_readValley_18 fl_CustomValley_Reader_32 rfl rfl rfl ?_
    refine wp_if_ne (tgt := 58) dX2_readValley_21 (by decide) (fun hc => ?_) (fun hc => ?_)
    · replace h := h.1 hc
      refine wp_aload_n dX2_readValley_58 rfl rfl ?_
      refine wp_getI dX2_readValley_59 fl_CustomValley_Reader_32 rfl rfl rfl ?_
      refine wp_if_ne (tgt := 89) dX2_readValley_62 (by decide) (fun hc => ?_) (fun hc => ?_)
      · replace h := h.1 hc
        exact wp_drop (als' := [vU, vU]) (lle_c (Or.inr rfl) (lle_c (Or.inr rfl) lle_n)) h
      · replace h := h.2 hc
        refine wp_aload_n dX2_readValley_65 rfl rfl ?_
        refine wp_getI dX2_readValley_66 fl_CustomValley_Reader_44 rfl rfl rfl ?_
        refine wp_bipush dX2_readValley_69 rfl ?_
        refine wp_iand dX2_readValley_71 ?_
        refine wp_if_ne (tgt := 82) dX2_readValley_72 (by decide) (fun hc => ?_) (fun hc => ?_)
        · replace h := h.1 hc
          exact wp_drop (als' := [vR 3 0, vU]) (lle_c (Or.inl rfl) (lle_c (Or.inr rfl) lle_n)) h
        · replace h := h.2 hc
          refine wp_aload_n dX2_readValley_75 rfl rfl ?_
          refine wp_getR dX2_readValley_76 fl_CustomValley_Reader_12 rfl rfl ?_
          refine wp_invV (N := mX9_meetAll) [] dX2_readValley_79 ml_CustomValley_Reader_47 mvX9_meetAll rfl rfl rfl rfl rfl (Nat.le_of_ble_eq_true rfl) (Nat.le_of_ble_eq_true rfl) (by decide) (by decide) (by decide) ?_
          exact WP.mono h (ct_drop (lle_c (Or.inl rfl) (lle_c (Or.inr rfl) lle_n)))
    · replace h := h.2 hc
      refine wp_aload_n dX2_readValley_24 rfl rfl ?_
      refine wp_getI dX2_readValley_25 fl_CustomValley_Reader_35 rfl rfl rfl ?_
      refine wp_if_eq (tgt := 58) dX2_readValley_28 (by decide) (fun hc => ?_) (fun hc => ?_)
      · replace h := h.1 hc
        refine wp_aload_n dX2_readValley_58 rfl rfl ?_
        refine wp_getI dX2_readValley_59 fl_CustomValley_Reader_32 rfl rfl rfl ?_
        refine wp_if_ne (tgt := 89) dX2_readValley_62 (by decide) (fun hc => ?_) (fun hc => ?_)
        · replace h := h.1 hc
          exact wp_drop (als' := [vU, vU]) (lle_c (Or.inr rfl) (lle_c (Or.inr rfl) lle_n)) h
        · replace h := h.2 hc
          refine wp_aload_n dX2_readValley_65 rfl rfl ?_
          refine wp_getI dX2_readValley_66 fl_CustomValley_Reader_44 rfl rfl rfl ?_
          refine wp_bipush dX2_readValley_69 rfl ?_
          refine wp_iand dX2_readValley_71 ?_
          refine wp_if_ne (tgt := 82) dX2_readValley_72 (by decide) (fun hc => ?_) (fun hc => ?_)
          · replace h := h.1 hc
            exact wp_drop (als' := [vR 3 0, vU]) (lle_c (Or.inl rfl) (lle_c (Or.inr rfl) lle_n)) h
          · replace h := h.2 hc
            refine wp_aload_n dX2_readValley_75 rfl rfl ?_
            refine wp_getR dX2_readValley_76 fl_CustomValley_Reader_12 rfl rfl ?_
            refine wp_invV (N := mX9_meetAll) [] dX2_readValley_79 ml_CustomValley_Reader_47 mvX9_meetAll rfl rfl rfl rfl rfl (Nat.le_of_ble_eq_true rfl) (Nat.le_of_ble_eq_true rfl) (by decide) (by decide) (by decide) ?_
            exact WP.mono h (ct_drop (lle_c (Or.inl rfl) (lle_c (Or.inr rfl) lle_n)))
      · replace h := h.2 hc
        refine wp_aload_n dX2_readValley_31 rfl rfl ?_
        refine wp_invV (N := mX2_readClause) [] dX2_readValley_32 ml_CustomValley_Reader_38 mvX2_readClause rfl rfl rfl rfl rfl (Nat.le_of_ble_eq_true rfl) (Nat.le_of_ble_eq_true rfl) (by decide) (by decide) (by decide) ?_
        exact h
theorem b_X2_readValley_35 {x1 : Int} {σ : St} {Q : Res → St → Prop} (h : (in32 ((σ 10 2 4) + 1)) ∧ (WP mX2_nextToken 0 [vR 3 0, vU] [] (up σ 10 2 4 ((σ 10 2 4) + 1)) (CT mX2_readValley 52 [vR 3 0, vI x1] [] Q))) : WP mX2_readValley 35 [vR 3 0, vI x1] [] σ Q := by
  refine wp_aload_n dX2_readValley_35 rfl rfl ?_
  refine wp_getR dX2_readValley_36 fl_CustomValley_Reader_12 rfl rfl ?_
  refine wp_dup dX2_readValley_39 ?_
  refine wp_getI dX2_readValley_40 fl_CustomValley_Reader_41 rfl rfl rfl ?_
  refine wp_iconst dX2_readValley_43 rfl ?_
  have s1 := h.1
  replace h := h.2
  refine wp_iadd dX2_readValley_44 ?_ (h1 := s1.1) (h2 := s1.2)
  refine wp_putI dX2_readValley_45 fp_CustomValley_Reader_41 rfl rfl rfl ?_
  refine wp_aload_n dX2_readValley_48 rfl rfl ?_
  refine wp_invV (N := mX2_nextToken) [] dX2_readValley_49 ml_CustomValley_Reader_29 mvX2_nextToken rfl rfl rfl rfl rfl (Nat.le_of_ble_eq_true rfl) (Nat.le_of_ble_eq_true rfl) (by decide) (by decide) (by decide) ?_
  exact h
theorem b_X2_readValley_52 {x1 : Int} {σ : St} {Q : Res → St → Prop} (h : (in32 (x1 + 1)) ∧ (WP mX2_readValley 10 [vR 3 0, vI (x1 + 1)] [] σ Q)) : WP mX2_readValley 52 [vR 3 0, vI x1] [] σ Q := by
  have s1 := h.1
  replace h := h.2
  refine wp_iinc dX2_readValley_52 rfl (by decide) rfl rfl ?_ (h1 := s1.1) (h2 := s1.2)
  refine wp_goto (tgt := 10) dX2_readValley_55 (by decide) ?_
  exact h
theorem b_X2_readValley_82  {σ : St} {Q : Res → St → Prop} (h : WP mX9_settle 0 [vR 10 2, vU] [] σ (CT mX2_readValley 89 [vU, vU] [] Q)) : WP mX2_readValley 82 [vR 3 0, vU] [] σ Q := by
  refine wp_aload_n dX2_readValley_82 rfl rfl ?_
  refine wp_getR dX2_readValley_83 fl_CustomValley_Reader_12 rfl rfl ?_
  refine wp_invV (N := mX9_settle) [] dX2_readValley_86 ml_CustomValley_Reader_50 mvX9_settle rfl rfl rfl rfl rfl (Nat.le_of_ble_eq_true rfl) (Nat.le_of_ble_eq_true rfl) (by decide) (by decide) (by decide) ?_
  exact WP.mono h (ct_drop (lle_c (Or.inr rfl) (lle_c (Or.inl rfl) lle_n)))
theorem b_X2_readValley_89  {σ : St} {Q : Res → St → Prop} (h : Q (.inl none) σ) : WP mX2_readValley 89 [vU, vU] [] σ Q := by
  exact wp_ret dX2_readValley_89 rfl h
