theorem dX6_has_0 : decode cX6_has 0 = .ok (.iload_n 1, 1) := by decide +kernel
theorem dX6_has_1 : decode cX6_has 1 = .ok (.ifCond .lt 15, 3) := by decide +kernel
theorem dX6_has_4 : decode cX6_has 4 = .ok (.iload_n 1, 1) := by decide +kernel
theorem dX6_has_5 : decode cX6_has 5 = .ok (.aload_n 0, 1) := by decide +kernel
theorem dX6_has_6 : decode cX6_has 6 = .ok (.getfield 30, 3) := by decide +kernel
theorem dX6_has_9 : decode cX6_has 9 = .ok (.if_icmp .ge 7, 3) := by decide +kernel
theorem dX6_has_12 : decode cX6_has 12 = .ok (.iconst 1, 1) := by decide +kernel
theorem dX6_has_13 : decode cX6_has 13 = .ok (.goto 4, 3) := by decide +kernel
theorem dX6_has_16 : decode cX6_has 16 = .ok (.iconst 0, 1) := by decide +kernel
theorem dX6_has_17 : decode cX6_has 17 = .ok (.ireturn, 1) := by decide +kernel
theorem b_X6_has_0 {x1 : Int} {σ : St} {Q : Res → St → Prop} (h : ((x1 < 0) → (Q (.inl (some (vI 0))) σ)) ∧ ((0 ≤ x1) → ((((σ 7 0 0) ≤ x1) → (Q (.inl (some (vI 0))) σ)) ∧ ((x1 < (σ 7 0 0)) → (Q (.inl (some (vI 1))) σ))))) : WP mX6_has 0 [vR 7 0, vI x1] [] σ Q := by
  refine wp_iload_n dX6_has_0 rfl rfl ?_
  refine wp_if_lt (tgt := 16) dX6_has_1 (by decide) (fun hc => ?_) (fun hc => ?_)
  · replace h := h.1 hc
    refine wp_iconst dX6_has_16 rfl ?_
    exact wp_zret dX6_has_17 rfl h (by decide)
  · replace h := h.2 hc
    refine wp_iload_n dX6_has_4 rfl rfl ?_
    refine wp_aload_n dX6_has_5 rfl rfl ?_
    refine wp_getI dX6_has_6 fl_CustomValley_Seen_30 rfl rfl rfl ?_
    refine wp_icmp_ge (tgt := 16) dX6_has_9 (by decide) (fun hc => ?_) (fun hc => ?_)
    · replace h := h.1 hc
      refine wp_iconst dX6_has_16 rfl ?_
      exact wp_zret dX6_has_17 rfl h (by decide)
    · replace h := h.2 hc
      refine wp_iconst dX6_has_12 rfl ?_
      refine wp_goto (tgt := 17) dX6_has_13 (by decide) ?_
      exact wp_zret dX6_has_17 rfl h (by decide)
theorem pb_X6_has {x1 : Int} {σ : St} {Q : Res → St → Prop} (hs : True) (h : Q (.inl (some (vI (b2 (0 ≤ x1 ∧ x1 < (σ 7 0 0)))))) σ) : WP mX6_has 0 [vR 7 0, vI x1] [] σ Q := by
  refine b_X6_has_0 ?_
  by_cases hp : (0 ≤ x1 ∧ x1 < (σ 7 0 0))
  · rw [b2, if_pos hp] at h
    (repeat' (first | intro _ | apply And.intro)) <;> (first | exact h | omega | (exfalso; omega) | (exact absurd (by assumption) (by omega)))
  · rw [b2, if_neg hp] at h
    (repeat' (first | intro _ | apply And.intro)) <;> (first | exact h | omega | (exfalso; omega) | (exact absurd (by assumption) (by omega)))
theorem dX6_mayDawn_0 : decode cX6_mayDawn 0 = .ok (.iload_n 1, 1) := by decide +kernel
theorem dX6_mayDawn_1 : decode cX6_mayDawn 1 = .ok (.ifCond .lt 36, 3) := by decide +kernel
theorem dX6_mayDawn_4 : decode cX6_mayDawn 4 = .ok (.iload_n 1, 1) := by decide +kernel
theorem dX6_mayDawn_5 : decode cX6_mayDawn 5 = .ok (.sipush 999, 3) := by decide +kernel
theorem dX6_mayDawn_8 : decode cX6_mayDawn 8 = .ok (.if_icmp .gt 29, 3) := by decide +kernel
theorem dX6_mayDawn_11 : decode cX6_mayDawn 11 = .ok (.aload_n 0, 1) := by decide +kernel
theorem dX6_mayDawn_12 : decode cX6_mayDawn 12 = .ok (.getfield 30, 3) := by decide +kernel
theorem dX6_mayDawn_15 : decode cX6_mayDawn 15 = .ok (.ifCond .eq 18, 3) := by decide +kernel
theorem dX6_mayDawn_18 : decode cX6_mayDawn 18 = .ok (.iload_n 1, 1) := by decide +kernel
theorem dX6_mayDawn_19 : decode cX6_mayDawn 19 = .ok (.aload_n 0, 1) := by decide +kernel
theorem dX6_mayDawn_20 : decode cX6_mayDawn 20 = .ok (.getfield 9, 3) := by decide +kernel
theorem dX6_mayDawn_23 : decode cX6_mayDawn 23 = .ok (.aload_n 0, 1) := by decide +kernel
theorem dX6_mayDawn_24 : decode cX6_mayDawn 24 = .ok (.getfield 30, 3) := by decide +kernel
theorem dX6_mayDawn_27 : decode cX6_mayDawn 27 = .ok (.iconst 1, 1) := by decide +kernel
theorem dX6_mayDawn_28 : decode cX6_mayDawn 28 = .ok (.isub, 1) := by decide +kernel
theorem dX6_mayDawn_29 : decode cX6_mayDawn 29 = .ok (.iaload, 1) := by decide +kernel
theorem dX6_mayDawn_30 : decode cX6_mayDawn 30 = .ok (.if_icmp .le 7, 3) := by decide +kernel
theorem dX6_mayDawn_33 : decode cX6_mayDawn 33 = .ok (.iconst 1, 1) := by decide +kernel
theorem dX6_mayDawn_34 : decode cX6_mayDawn 34 = .ok (.goto 4, 3) := by decide +kernel
theorem dX6_mayDawn_37 : decode cX6_mayDawn 37 = .ok (.iconst 0, 1) := by decide +kernel
theorem dX6_mayDawn_38 : decode cX6_mayDawn 38 = .ok (.ireturn, 1) := by decide +kernel
theorem b_X6_mayDawn_0 {x1 : Int} {σ : St} {Q : Res → St → Prop} (h : ((x1 < 0) → (Q (.inl (some (vI 0))) σ)) ∧ ((0 ≤ x1) → (((999 < x1) → (Q (.inl (some (vI 0))) σ)) ∧ ((x1 ≤ 999) → ((((σ 7 0 0) = 0) → (Q (.inl (some (vI 1))) σ)) ∧ (((σ 7 0 0) ≠ 0) → ((in32 ((σ 7 0 0) - 1)) ∧ ((0 ≤ (σ 7 0 0) - 1 ∧ ((σ 7 0 0) - 1) < 20) ∧ (((x1 ≤ (σ 40 0 (((σ 7 0 0) - 1).toNat))) → (Q (.inl (some (vI 0))) σ)) ∧ (((σ 40 0 (((σ 7 0 0) - 1).toNat)) < x1) → (Q (.inl (some (vI 1))) σ))))))))))) : WP mX6_mayDawn 0 [vR 7 0, vI x1] [] σ Q := by
  refine wp_iload_n dX6_mayDawn_0 rfl rfl ?_
  refine wp_if_lt (tgt := 37) dX6_mayDawn_1 (by decide) (fun hc => ?_) (fun hc => ?_)
  · replace h := h.1 hc
    refine wp_iconst dX6_mayDawn_37 rfl ?_
    exact wp_zret dX6_mayDawn_38 rfl h (by decide)
  · replace h := h.2 hc
    refine wp_iload_n dX6_mayDawn_4 rfl rfl ?_
    refine wp_sipush dX6_mayDawn_5 rfl ?_
    refine wp_icmp_gt (tgt := 37) dX6_mayDawn_8 (by decide) (fun hc => ?_) (fun hc => ?_)
    · replace h := h.1 hc
      refine wp_iconst dX6_mayDawn_37 rfl ?_
      exact wp_zret dX6_mayDawn_38 rfl h (by decide)
    · replace h := h.2 hc
      refine wp_aload_n dX6_mayDawn_11 rfl rfl ?_
      refine wp_getI dX6_mayDawn_12 fl_CustomValley_Seen_30 rfl rfl rfl ?_
      refine wp_if_eq (tgt := 33) dX6_mayDawn_15 (by decide) (fun hc => ?_) (fun hc => ?_)
      · replace h := h.1 hc
        refine wp_iconst dX6_mayDawn_33 rfl ?_
        refine wp_goto (tgt := 38) dX6_mayDawn_34 (by decide) ?_
        exact wp_zret dX6_mayDawn_38 rfl h (by decide)
      · replace h := h.2 hc
        refine wp_iload_n dX6_mayDawn_18 rfl rfl ?_
        refine wp_aload_n dX6_mayDawn_19 rfl rfl ?_
        refine wp_getR dX6_mayDawn_20 fl_CustomValley_Seen_9 rfl rfl ?_
        refine wp_aload_n dX6_mayDawn_23 rfl rfl ?_
        refine wp_getI dX6_mayDawn_24 fl_CustomValley_Seen_30 rfl rfl rfl ?_
        refine wp_iconst dX6_mayDawn_27 rfl ?_
        have s2 := h.1
        replace h := h.2
        refine wp_isub dX6_mayDawn_28 ?_ (h1 := s2.1) (h2 := s2.2)
        have s1 := h.1
        replace h := h.2
        refine wp_iaload dX6_mayDawn_29 rfl rfl s1.1 s1.2 ?_
        refine wp_icmp_le (tgt := 37) dX6_mayDawn_30 (by decide) (fun hc => ?_) (fun hc => ?_)
        · replace h := h.1 hc
          refine wp_iconst dX6_mayDawn_37 rfl ?_
          exact wp_zret dX6_mayDawn_38 rfl h (by decide)
        · replace h := h.2 hc
          refine wp_iconst dX6_mayDawn_33 rfl ?_
          refine wp_goto (tgt := 38) dX6_mayDawn_34 (by decide) ?_
          exact wp_zret dX6_mayDawn_38 rfl h (by decide)
theorem pb_X6_mayDawn {x1 : Int} {σ : St} {Q : Res → St → Prop} (hs : 0 ≤ (σ 7 0 0) ∧ (σ 7 0 0) ≤ 20) (h : Q (.inl (some (vI (b2 (0 ≤ x1 ∧ x1 ≤ 999 ∧ ((σ 7 0 0) = 0 ∨ (σ 40 0 ((σ 7 0 0 - 1).toNat)) < x1)))))) σ) : WP mX6_mayDawn 0 [vR 7 0, vI x1] [] σ Q := by
  refine b_X6_mayDawn_0 ?_
  by_cases hp : 0 ≤ x1 ∧ x1 ≤ 999 ∧ (σ 7 0 0 = 0 ∨ σ 40 0 ((σ 7 0 0 - 1).toNat) < x1)
  · rw [b2_t hp] at h
    (repeat' (first | intro _ | apply And.intro)) <;> (first | exact h | (unfold in32; omega) | omega)
  · rw [b2_f hp] at h
    (repeat' (first | intro _ | apply And.intro)) <;> (first | exact h | (unfold in32; omega) | omega)
theorem dX6_mayTell_0 : decode cX6_mayTell 0 = .ok (.iload_n 1, 1) := by decide +kernel
theorem dX6_mayTell_1 : decode cX6_mayTell 1 = .ok (.aload_n 0, 1) := by decide +kernel
theorem dX6_mayTell_2 : decode cX6_mayTell 2 = .ok (.getfield 37, 3) := by decide +kernel
theorem dX6_mayTell_5 : decode cX6_mayTell 5 = .ok (.if_icmp .lt 14, 3) := by decide +kernel
theorem dX6_mayTell_8 : decode cX6_mayTell 8 = .ok (.iload_n 1, 1) := by decide +kernel
theorem dX6_mayTell_9 : decode cX6_mayTell 9 = .ok (.sipush 999, 3) := by decide +kernel
theorem dX6_mayTell_12 : decode cX6_mayTell 12 = .ok (.if_icmp .gt 7, 3) := by decide +kernel
theorem dX6_mayTell_15 : decode cX6_mayTell 15 = .ok (.iconst 1, 1) := by decide +kernel
theorem dX6_mayTell_16 : decode cX6_mayTell 16 = .ok (.goto 4, 3) := by decide +kernel
theorem dX6_mayTell_19 : decode cX6_mayTell 19 = .ok (.iconst 0, 1) := by decide +kernel
theorem dX6_mayTell_20 : decode cX6_mayTell 20 = .ok (.ireturn, 1) := by decide +kernel
theorem b_X6_mayTell_0 {x1 : Int} {σ : St} {Q : Res → St → Prop} (h : ((x1 < (σ 7 0 2)) → (Q (.inl (some (vI 0))) σ)) ∧ (((σ 7 0 2) ≤ x1) → (((999 < x1) → (Q (.inl (some (vI 0))) σ)) ∧ ((x1 ≤ 999) → (Q (.inl (some (vI 1))) σ))))) : WP mX6_mayTell 0 [vR 7 0, vI x1] [] σ Q := by
  refine wp_iload_n dX6_mayTell_0 rfl rfl ?_
  refine wp_aload_n dX6_mayTell_1 rfl rfl ?_
  refine wp_getI dX6_mayTell_2 fl_CustomValley_Seen_37 rfl rfl rfl ?_
  refine wp_icmp_lt (tgt := 19) dX6_mayTell_5 (by decide) (fun hc => ?_) (fun hc => ?_)
  · replace h := h.1 hc
    refine wp_iconst dX6_mayTell_19 rfl ?_
    exact wp_zret dX6_mayTell_20 rfl h (by decide)
  · replace h := h.2 hc
    refine wp_iload_n dX6_mayTell_8 rfl rfl ?_
    refine wp_sipush dX6_mayTell_9 rfl ?_
    refine wp_icmp_gt (tgt := 19) dX6_mayTell_12 (by decide) (fun hc => ?_) (fun hc => ?_)
    · replace h := h.1 hc
      refine wp_iconst dX6_mayTell_19 rfl ?_
      exact wp_zret dX6_mayTell_20 rfl h (by decide)
    · replace h := h.2 hc
      refine wp_iconst dX6_mayTell_15 rfl ?_
      refine wp_goto (tgt := 20) dX6_mayTell_16 (by decide) ?_
      exact wp_zret dX6_mayTell_20 rfl h (by decide)
theorem pb_X6_mayTell {x1 : Int} {σ : St} {Q : Res → St → Prop} (hs : True) (h : Q (.inl (some (vI (b2 ((σ 7 0 2) ≤ x1 ∧ x1 ≤ 999))))) σ) : WP mX6_mayTell 0 [vR 7 0, vI x1] [] σ Q := by
  refine b_X6_mayTell_0 ?_
  by_cases hp : ((σ 7 0 2) ≤ x1 ∧ x1 ≤ 999)
  · rw [b2, if_pos hp] at h
    (repeat' (first | intro _ | apply And.intro)) <;> (first | exact h | omega | (exfalso; omega) | (exact absurd (by assumption) (by omega)))
  · rw [b2, if_neg hp] at h
    (repeat' (first | intro _ | apply And.intro)) <;> (first | exact h | omega | (exfalso; omega) | (exact absurd (by assumption) (by omega)))
theorem dX7_at_0 : decode cX7_at 0 = .ok (.iload_n 1, 1) := by decide +kernel
theorem dX7_at_1 : decode cX7_at 1 = .ok (.ifCond .lt 24, 3) := by decide +kernel
theorem dX7_at_4 : decode cX7_at 4 = .ok (.iload_n 1, 1) := by decide +kernel
theorem dX7_at_5 : decode cX7_at 5 = .ok (.aload_n 0, 1) := by decide +kernel
theorem dX7_at_6 : decode cX7_at 6 = .ok (.getfield 15, 3) := by decide +kernel
theorem dX7_at_9 : decode cX7_at 9 = .ok (.if_icmp .ge 16, 3) := by decide +kernel
theorem dX7_at_12 : decode cX7_at 12 = .ok (.aload_n 0, 1) := by decide +kernel
theorem dX7_at_13 : decode cX7_at 13 = .ok (.getfield 9, 3) := by decide +kernel
theorem dX7_at_16 : decode cX7_at 16 = .ok (.iload_n 1, 1) := by decide +kernel
theorem dX7_at_17 : decode cX7_at 17 = .ok (.baload, 1) := by decide +kernel
theorem dX7_at_18 : decode cX7_at 18 = .ok (.sipush 255, 3) := by decide +kernel
theorem dX7_at_21 : decode cX7_at 21 = .ok (.iand, 1) := by decide +kernel
theorem dX7_at_22 : decode cX7_at 22 = .ok (.goto 4, 3) := by decide +kernel
theorem dX7_at_25 : decode cX7_at 25 = .ok (.iconst (-1), 1) := by decide +kernel
theorem dX7_at_26 : decode cX7_at 26 = .ok (.ireturn, 1) := by decide +kernel
theorem b_X7_at_0 {x1 : Int} {σ : St} {Q : Res → St → Prop} (h : ((x1 < 0) → (Q (.inl (some (vI (-1)))) σ)) ∧ ((0 ≤ x1) → ((((σ 8 0 1) ≤ x1) → (Q (.inl (some (vI (-1)))) σ)) ∧ ((x1 < (σ 8 0 1)) → ((0 ≤ x1 ∧ x1 < 700) ∧ (Q (.inl (some (vI (band (σ 46 0 x1.toNat) 255)))) σ)))))) : WP mX7_at 0 [vR 8 0, vI x1] [] σ Q := by
  refine wp_iload_n dX7_at_0 rfl rfl ?_
  refine wp_if_lt (tgt := 25) dX7_at_1 (by decide) (fun hc => ?_) (fun hc => ?_)
  · replace h := h.1 hc
    refine wp_iconst dX7_at_25 rfl ?_
    exact wp_iret dX7_at_26 rfl h
  · replace h := h.2 hc
    refine wp_iload_n dX7_at_4 rfl rfl ?_
    refine wp_aload_n dX7_at_5 rfl rfl ?_
    refine wp_getI dX7_at_6 fl_CustomValley_Tape_15 rfl rfl rfl ?_
    refine wp_icmp_ge (tgt := 25) dX7_at_9 (by decide) (fun hc => ?_) (fun hc => ?_)
    · replace h := h.1 hc
      refine wp_iconst dX7_at_25 rfl ?_
      exact wp_iret dX7_at_26 rfl h
    · replace h := h.2 hc
      refine wp_aload_n dX7_at_12 rfl rfl ?_
      refine wp_getR dX7_at_13 fl_CustomValley_Tape_9 rfl rfl ?_
      refine wp_iload_n dX7_at_16 rfl rfl ?_
      have s1 := h.1
      replace h := h.2
      refine wp_baload dX7_at_17 rfl rfl s1.1 s1.2 ?_
      refine wp_sipush dX7_at_18 rfl ?_
      refine wp_iand dX7_at_21 ?_
      refine wp_goto (tgt := 26) dX7_at_22 (by decide) ?_
      exact wp_iret dX7_at_26 rfl h
theorem pb_X7_at {x1 : Int} {σ : St} {Q : Res → St → Prop} (hs : (σ 8 0 1) ≤ 700) (h : Q (.inl (some (vI (if 0 ≤ x1 ∧ x1 < (σ 8 0 1) then band (σ 46 0 x1.toNat) 255 else -1)))) σ) : WP mX7_at 0 [vR 8 0, vI x1] [] σ Q := by
  refine b_X7_at_0 ?_
  (repeat' (first | intro _ | apply And.intro)) <;> (first | (rw [if_pos (by omega)] at h; exact h) | (rw [if_neg (by omega)] at h; exact h) | omega)
theorem dX9_habitIn_0 : decode cX9_habitIn 0 = .ok (.iload_n 1, 1) := by decide +kernel
theorem dX9_habitIn_1 : decode cX9_habitIn 1 = .ok (.aload_n 0, 1) := by decide +kernel
theorem dX9_habitIn_2 : decode cX9_habitIn 2 = .ok (.getfield 30, 3) := by decide +kernel
theorem dX9_habitIn_5 : decode cX9_habitIn 5 = .ok (.iload_n 2, 1) := by decide +kernel
theorem dX9_habitIn_6 : decode cX9_habitIn 6 = .ok (.iaload, 1) := by decide +kernel
theorem dX9_habitIn_7 : decode cX9_habitIn 7 = .ok (.idiv, 1) := by decide +kernel
theorem dX9_habitIn_8 : decode cX9_habitIn 8 = .ok (.aload_n 0, 1) := by decide +kernel
theorem dX9_habitIn_9 : decode cX9_habitIn 9 = .ok (.getfield 49, 3) := by decide +kernel
theorem dX9_habitIn_12 : decode cX9_habitIn 12 = .ok (.irem, 1) := by decide +kernel
theorem dX9_habitIn_13 : decode cX9_habitIn 13 = .ok (.ireturn, 1) := by decide +kernel
theorem b_X9_habitIn_0 {i : Nat} {x1 : Int} {x2 : Int} {σ : St} {Q : Res → St → Prop} (h : (0 ≤ x2 ∧ x2 < 11) ∧ ((0 ≤ x1 ∧ 0 < σ 60 i x2.toNat) ∧ ((0 ≤ x1 / (σ 60 i x2.toNat) ∧ 0 < σ 10 i 1) ∧ (Q (.inl (some (vI ((x1 / (σ 60 i x2.toNat)) % (σ 10 i 1))))) σ)))) : WP mX9_habitIn 0 [vR 10 i, vI x1, vI x2] [] σ Q := by
  refine wp_iload_n dX9_habitIn_0 rfl rfl ?_
  refine wp_aload_n dX9_habitIn_1 rfl rfl ?_
  refine wp_getR dX9_habitIn_2 fl_CustomValley_Valley_30 rfl rfl ?_
  refine wp_iload_n dX9_habitIn_5 rfl rfl ?_
  have s3 := h.1
  replace h := h.2
  refine wp_iaload dX9_habitIn_6 rfl rfl s3.1 s3.2 ?_
  have s2 := h.1
  replace h := h.2
  refine wp_idiv dX9_habitIn_7 ?_ (h1 := s2.1) (h2 := s2.2)
  refine wp_aload_n dX9_habitIn_8 rfl rfl ?_
  refine wp_getI dX9_habitIn_9 fl_CustomValley_Valley_49 rfl rfl rfl ?_
  have s1 := h.1
  replace h := h.2
  refine wp_irem dX9_habitIn_12 ?_ (h1 := s1.1) (h2 := s1.2)
  exact wp_iret dX9_habitIn_13 rfl h
theorem pb_X9_habitIn {i : Nat} {x1 : Int} {x2 : Int} {σ : St} {Q : Res → St → Prop} (hs : 0 ≤ x2 ∧ x2 < 11 ∧ 0 ≤ x1 ∧ 0 < σ 60 i x2.toNat ∧ 0 ≤ x1 / (σ 60 i x2.toNat) ∧ 0 < σ 10 i 1) (h : Q (.inl (some (vI ((x1 / (σ 60 i x2.toNat)) % (σ 10 i 1))))) σ) : WP mX9_habitIn 0 [vR 10 i, vI x1, vI x2] [] σ Q := by
  obtain ⟨h0, h1, h2, h3, h4, h5⟩ := hs
  exact b_X9_habitIn_0 ⟨⟨h0, h1⟩, ⟨h2, h3⟩, ⟨h4, h5⟩, h⟩
theorem dX9_isFree_0 : decode cX9_isFree 0 = .ok (.aload_n 0, 1) := by decide +kernel
theorem dX9_isFree_1 : decode cX9_isFree 1 = .ok (.getfield 74, 3) := by decide +kernel
theorem dX9_isFree_4 : decode cX9_isFree 4 = .ok (.iload_n 1, 1) := by decide +kernel
theorem dX9_isFree_5 : decode cX9_isFree 5 = .ok (.ishr, 1) := by decide +kernel
theorem dX9_isFree_6 : decode cX9_isFree 6 = .ok (.iconst 1, 1) := by decide +kernel
theorem dX9_isFree_7 : decode cX9_isFree 7 = .ok (.iand, 1) := by decide +kernel
theorem dX9_isFree_8 : decode cX9_isFree 8 = .ok (.ifCond .eq 7, 3) := by decide +kernel
theorem dX9_isFree_11 : decode cX9_isFree 11 = .ok (.iconst 1, 1) := by decide +kernel
theorem dX9_isFree_12 : decode cX9_isFree 12 = .ok (.goto 4, 3) := by decide +kernel
theorem dX9_isFree_15 : decode cX9_isFree 15 = .ok (.iconst 0, 1) := by decide +kernel
theorem dX9_isFree_16 : decode cX9_isFree 16 = .ok (.ireturn, 1) := by decide +kernel
theorem b_X9_isFree_0 {i : Nat} {x1 : Int} {σ : St} {Q : Res → St → Prop} (h : (((band (shr (σ 10 i 9) x1) 1) = 0) → (Q (.inl (some (vI 0))) σ)) ∧ (((band (shr (σ 10 i 9) x1) 1) ≠ 0) → (Q (.inl (some (vI 1))) σ))) : WP mX9_isFree 0 [vR 10 i, vI x1] [] σ Q := by
  refine wp_aload_n dX9_isFree_0 rfl rfl ?_
  refine wp_getI dX9_isFree_1 fl_CustomValley_Valley_74 rfl rfl rfl ?_
  refine wp_iload_n dX9_isFree_4 rfl rfl ?_
  refine wp_ishr dX9_isFree_5 ?_
  refine wp_iconst dX9_isFree_6 rfl ?_
  refine wp_iand dX9_isFree_7 ?_
  refine wp_if_eq (tgt := 15) dX9_isFree_8 (by decide) (fun hc => ?_) (fun hc => ?_)
  · replace h := h.1 hc
    refine wp_iconst dX9_isFree_15 rfl ?_
    exact wp_zret dX9_isFree_16 rfl h (by decide)
  · replace h := h.2 hc
    refine wp_iconst dX9_isFree_11 rfl ?_
    refine wp_goto (tgt := 16) dX9_isFree_12 (by decide) ?_
    exact wp_zret dX9_isFree_16 rfl h (by decide)
theorem pb_X9_isFree {i : Nat} {x1 : Int} {σ : St} {Q : Res → St → Prop} (hs : True) (h : Q (.inl (some (vI (b2 (band (shr (σ 10 i 9) x1) 1 ≠ 0))))) σ) : WP mX9_isFree 0 [vR 10 i, vI x1] [] σ Q := by
  refine b_X9_isFree_0 ?_
  by_cases hp : (band (shr (σ 10 i 9) x1) 1 ≠ 0)
  · rw [b2, if_pos hp] at h
    (repeat' (first | intro _ | apply And.intro)) <;> (first | exact h | omega | (exfalso; omega) | (exact absurd (by assumption) (by omega)))
  · rw [b2, if_neg hp] at h
    (repeat' (first | intro _ | apply And.intro)) <;> (first | exact h | omega | (exfalso; omega) | (exact absurd (by assumption) (by omega)))
theorem dX9_isHabit_0 : decode cX9_isHabit 0 = .ok (.iload_n 1, 1) := by decide +kernel
theorem dX9_isHabit_1 : decode cX9_isHabit 1 = .ok (.ifCond .lt 15, 3) := by decide +kernel
theorem dX9_isHabit_4 : decode cX9_isHabit 4 = .ok (.iload_n 1, 1) := by decide +kernel
theorem dX9_isHabit_5 : decode cX9_isHabit 5 = .ok (.aload_n 0, 1) := by decide +kernel
theorem dX9_isHabit_6 : decode cX9_isHabit 6 = .ok (.getfield 49, 3) := by decide +kernel
theorem dX9_isHabit_9 : decode cX9_isHabit 9 = .ok (.if_icmp .ge 7, 3) := by decide +kernel
theorem dX9_isHabit_12 : decode cX9_isHabit 12 = .ok (.iconst 1, 1) := by decide +kernel
theorem dX9_isHabit_13 : decode cX9_isHabit 13 = .ok (.goto 4, 3) := by decide +kernel
theorem dX9_isHabit_16 : decode cX9_isHabit 16 = .ok (.iconst 0, 1) := by decide +kernel
theorem dX9_isHabit_17 : decode cX9_isHabit 17 = .ok (.ireturn, 1) := by decide +kernel
theorem b_X9_isHabit_0 {i : Nat} {x1 : Int} {σ : St} {Q : Res → St → Prop} (h : ((x1 < 0) → (Q (.inl (some (vI 0))) σ)) ∧ ((0 ≤ x1) → ((((σ 10 i 1) ≤ x1) → (Q (.inl (some (vI 0))) σ)) ∧ ((x1 < (σ 10 i 1)) → (Q (.inl (some (vI 1))) σ))))) : WP mX9_isHabit 0 [vR 10 i, vI x1] [] σ Q := by
  refine wp_iload_n dX9_isHabit_0 rfl rfl ?_
  refine wp_if_lt (tgt := 16) dX9_isHabit_1 (by decide) (fun hc => ?_) (fun hc => ?_)
  · replace h := h.1 hc
    refine wp_iconst dX9_isHabit_16 rfl ?_
    exact wp_zret dX9_isHabit_17 rfl h (by decide)
  · replace h := h.2 hc
    refine wp_iload_n dX9_isHabit_4 rfl rfl ?_
    refine wp_aload_n dX9_isHabit_5 rfl rfl ?_
    refine wp_getI dX9_isHabit_6 fl_CustomValley_Valley_49 rfl rfl rfl ?_
    refine wp_icmp_ge (tgt := 16) dX9_isHabit_9 (by decide) (fun hc => ?_) (fun hc => ?_)
    · replace h := h.1 hc
      refine wp_iconst dX9_isHabit_16 rfl ?_
      exact wp_zret dX9_isHabit_17 rfl h (by decide)
    · replace h := h.2 hc
      refine wp_iconst dX9_isHabit_12 rfl ?_
      refine wp_goto (tgt := 17) dX9_isHabit_13 (by decide) ?_
      exact wp_zret dX9_isHabit_17 rfl h (by decide)
theorem pb_X9_isHabit {i : Nat} {x1 : Int} {σ : St} {Q : Res → St → Prop} (hs : True) (h : Q (.inl (some (vI (b2 (0 ≤ x1 ∧ x1 < (σ 10 i 1)))))) σ) : WP mX9_isHabit 0 [vR 10 i, vI x1] [] σ Q := by
  refine b_X9_isHabit_0 ?_
  by_cases hp : (0 ≤ x1 ∧ x1 < (σ 10 i 1))
  · rw [b2, if_pos hp] at h
    (repeat' (first | intro _ | apply And.intro)) <;> (first | exact h | omega | (exfalso; omega) | (exact absurd (by assumption) (by omega)))
  · rw [b2, if_neg hp] at h
    (repeat' (first | intro _ | apply And.intro)) <;> (first | exact h | omega | (exfalso; omega) | (exact absurd (by assumption) (by omega)))
theorem dX9_isPerson_0 : decode cX9_isPerson 0 = .ok (.iload_n 1, 1) := by decide +kernel
theorem dX9_isPerson_1 : decode cX9_isPerson 1 = .ok (.ifCond .lt 15, 3) := by decide +kernel
theorem dX9_isPerson_4 : decode cX9_isPerson 4 = .ok (.iload_n 1, 1) := by decide +kernel
theorem dX9_isPerson_5 : decode cX9_isPerson 5 = .ok (.aload_n 0, 1) := by decide +kernel
theorem dX9_isPerson_6 : decode cX9_isPerson 6 = .ok (.getfield 45, 3) := by decide +kernel
theorem dX9_isPerson_9 : decode cX9_isPerson 9 = .ok (.if_icmp .ge 7, 3) := by decide +kernel
theorem dX9_isPerson_12 : decode cX9_isPerson 12 = .ok (.iconst 1, 1) := by decide +kernel
theorem dX9_isPerson_13 : decode cX9_isPerson 13 = .ok (.goto 4, 3) := by decide +kernel
theorem dX9_isPerson_16 : decode cX9_isPerson 16 = .ok (.iconst 0, 1) := by decide +kernel
theorem dX9_isPerson_17 : decode cX9_isPerson 17 = .ok (.ireturn, 1) := by decide +kernel
theorem b_X9_isPerson_0 {i : Nat} {x1 : Int} {σ : St} {Q : Res → St → Prop} (h : ((x1 < 0) → (Q (.inl (some (vI 0))) σ)) ∧ ((0 ≤ x1) → ((((σ 10 i 0) ≤ x1) → (Q (.inl (some (vI 0))) σ)) ∧ ((x1 < (σ 10 i 0)) → (Q (.inl (some (vI 1))) σ))))) : WP mX9_isPerson 0 [vR 10 i, vI x1] [] σ Q := by
  refine wp_iload_n dX9_isPerson_0 rfl rfl ?_
  refine wp_if_lt (tgt := 16) dX9_isPerson_1 (by decide) (fun hc => ?_) (fun hc => ?_)
  · replace h := h.1 hc
    refine wp_iconst dX9_isPerson_16 rfl ?_
    exact wp_zret dX9_isPerson_17 rfl h (by decide)
  · replace h := h.2 hc
    refine wp_iload_n dX9_isPerson_4 rfl rfl ?_
    refine wp_aload_n dX9_isPerson_5 rfl rfl ?_
    refine wp_getI dX9_isPerson_6 fl_CustomValley_Valley_45 rfl rfl rfl ?_
    refine wp_icmp_ge (tgt := 16) dX9_isPerson_9 (by decide) (fun hc => ?_) (fun hc => ?_)
    · replace h := h.1 hc
      refine wp_iconst dX9_isPerson_16 rfl ?_
      exact wp_zret dX9_isPerson_17 rfl h (by decide)
    · replace h := h.2 hc
      refine wp_iconst dX9_isPerson_12 rfl ?_
      refine wp_goto (tgt := 17) dX9_isPerson_13 (by decide) ?_
      exact wp_zret dX9_isPerson_17 rfl h (by decide)
theorem pb_X9_isPerson {i : Nat} {x1 : Int} {σ : St} {Q : Res → St → Prop} (hs : True) (h : Q (.inl (some (vI (b2 (0 ≤ x1 ∧ x1 < (σ 10 i 0)))))) σ) : WP mX9_isPerson 0 [vR 10 i, vI x1] [] σ Q := by
  refine b_X9_isPerson_0 ?_
  by_cases hp : (0 ≤ x1 ∧ x1 < (σ 10 i 0))
  · rw [b2, if_pos hp] at h
    (repeat' (first | intro _ | apply And.intro)) <;> (first | exact h | omega | (exfalso; omega) | (exact absurd (by assumption) (by omega)))
  · rw [b2, if_neg hp] at h
    (repeat' (first | intro _ | apply And.intro)) <;> (first | exact h | omega | (exfalso; omega) | (exact absurd (by assumption) (by omega)))
theorem dX9_with_0 : decode cX9_with 0 = .ok (.iload_n 1, 1) := by decide +kernel
theorem dX9_with_1 : decode cX9_with 1 = .ok (.iload_n 3, 1) := by decide +kernel
theorem dX9_with_2 : decode cX9_with 2 = .ok (.aload_n 0, 1) := by decide +kernel
theorem dX9_with_3 : decode cX9_with 3 = .ok (.iload_n 1, 1) := by decide +kernel
theorem dX9_with_4 : decode cX9_with 4 = .ok (.iload_n 2, 1) := by decide +kernel
theorem dX9_with_5 : decode cX9_with 5 = .ok (.invokevirtual 109, 3) := by decide +kernel
theorem dX9_with_8 : decode cX9_with 8 = .ok (.isub, 1) := by decide +kernel
theorem dX9_with_9 : decode cX9_with 9 = .ok (.aload_n 0, 1) := by decide +kernel
theorem dX9_with_10 : decode cX9_with 10 = .ok (.getfield 30, 3) := by decide +kernel
theorem dX9_with_13 : decode cX9_with 13 = .ok (.iload_n 2, 1) := by decide +kernel
theorem dX9_with_14 : decode cX9_with 14 = .ok (.iaload, 1) := by decide +kernel
theorem dX9_with_15 : decode cX9_with 15 = .ok (.imul, 1) := by decide +kernel
theorem dX9_with_16 : decode cX9_with 16 = .ok (.iadd, 1) := by decide +kernel
theorem dX9_with_17 : decode cX9_with 17 = .ok (.ireturn, 1) := by decide +kernel
theorem b_X9_with_0 {i : Nat} {x1 : Int} {x2 : Int} {x3 : Int} {σ : St} {Q : Res → St → Prop} (h : (0 ≤ x2 ∧ x2 < 11 ∧ 0 ≤ x1 ∧ 0 < σ 60 i x2.toNat ∧ 0 ≤ x1 / (σ 60 i x2.toNat) ∧ 0 < σ 10 i 1) ∧ ((in32 (x3 - ((x1 / (σ 60 i x2.toNat)) % (σ 10 i 1)))) ∧ ((0 ≤ x2 ∧ x2 < 11) ∧ ((in32 ((x3 - ((x1 / (σ 60 i x2.toNat)) % (σ 10 i 1))) * (σ 60 i x2.toNat))) ∧ ((in32 (x1 + ((x3 - ((x1 / (σ 60 i x2.toNat)) % (σ 10 i 1))) * (σ 60 i x2.toNat)))) ∧ (Q (.inl (some (vI (x1 + ((x3 - ((x1 / (σ 60 i x2.toNat)) % (σ 10 i 1))) * (σ 60 i x2.toNat)))))) σ)))))) : WP mX9_with 0 [vR 10 i, vI x1, vI x2, vI x3] [] σ Q := by
  refine wp_iload_n dX9_with_0 rfl rfl ?_
  refine wp_iload_n dX9_with_1 rfl rfl ?_
  refine wp_aload_n dX9_with_2 rfl rfl ?_
  refine wp_iload_n dX9_with_3 rfl rfl ?_
  refine wp_iload_n dX9_with_4 rfl rfl ?_
  have s5 := h.1
  replace h := h.2
  refine wp_invV (N := mX9_habitIn) [vI x1, vI x2] dX9_with_5 ml_CustomValley_Valley_109 mvX9_habitIn rfl rfl rfl rfl rfl (Nat.le_of_ble_eq_true rfl) (Nat.le_of_ble_eq_true rfl) (by decide) (by decide) (by decide) ?_
  refine pb_X9_habitIn s5 ?_
  show WP mX9_with 8 [vR 10 i, vI x1, vI x2, vI x3] [vI ((x1 / (σ 60 i x2.toNat)) % (σ 10 i 1)), vI x3, vI x1] σ Q
  have s4 := h.1
  replace h := h.2
  refine wp_isub dX9_with_8 ?_ (h1 := s4.1) (h2 := s4.2)
  refine wp_aload_n dX9_with_9 rfl rfl ?_
  refine wp_getR dX9_with_10 fl_CustomValley_Valley_30 rfl rfl ?_
  refine wp_iload_n dX9_with_13 rfl rfl ?_
  have s3 := h.1
  replace h := h.2
  refine wp_iaload dX9_with_14 rfl rfl s3.1 s3.2 ?_
  have s2 := h.1
  replace h := h.2
  refine wp_imul dX9_with_15 ?_ (h1 := s2.1) (h2 := s2.2)
  have s1 := h.1
  replace h := h.2
  refine wp_iadd dX9_with_16 ?_ (h1 := s1.1) (h2 := s1.2)
  exact wp_iret dX9_with_17 rfl h
theorem pb_X9_with {i : Nat} {x1 : Int} {x2 : Int} {x3 : Int} {σ : St} {Q : Res → St → Prop} (hs : 0 ≤ x2 ∧ x2 < 11 ∧ 0 ≤ x1 ∧ 0 < σ 60 i x2.toNat ∧ 0 ≤ x1 / (σ 60 i x2.toNat) ∧ 0 < σ 10 i 1 ∧ in32 (x3 - ((x1 / (σ 60 i x2.toNat)) % (σ 10 i 1))) ∧ 0 ≤ x2 ∧ x2 < 11 ∧ in32 ((x3 - ((x1 / (σ 60 i x2.toNat)) % (σ 10 i 1))) * (σ 60 i x2.toNat)) ∧ in32 (x1 + ((x3 - ((x1 / (σ 60 i x2.toNat)) % (σ 10 i 1))) * (σ 60 i x2.toNat)))) (h : Q (.inl (some (vI (x1 + ((x3 - ((x1 / (σ 60 i x2.toNat)) % (σ 10 i 1))) * (σ 60 i x2.toNat)))))) σ) : WP mX9_with 0 [vR 10 i, vI x1, vI x2, vI x3] [] σ Q := by
  obtain ⟨h0, h1, h2, h3, h4, h5, h6, h7, h8, h9, h10⟩ := hs
  exact b_X9_with_0 ⟨⟨h0, h1, h2, h3, h4, h5⟩, h6, ⟨h7, h8⟩, h9, h10, h⟩
theorem dX6_add_0 : decode cX6_add 0 = .ok (.aload_n 0, 1) := by decide +kernel
theorem dX6_add_1 : decode cX6_add 1 = .ok (.iload_n 1, 1) := by decide +kernel
theorem dX6_add_2 : decode cX6_add 2 = .ok (.putfield 37, 3) := by decide +kernel
theorem dX6_add_5 : decode cX6_add 5 = .ok (.aload_n 0, 1) := by decide +kernel
theorem dX6_add_6 : decode cX6_add 6 = .ok (.getfield 9, 3) := by decide +kernel
theorem dX6_add_9 : decode cX6_add 9 = .ok (.aload_n 0, 1) := by decide +kernel
theorem dX6_add_10 : decode cX6_add 10 = .ok (.getfield 30, 3) := by decide +kernel
theorem dX6_add_13 : decode cX6_add 13 = .ok (.iload_n 2, 1) := by decide +kernel
theorem dX6_add_14 : decode cX6_add 14 = .ok (.iastore, 1) := by decide +kernel
theorem dX6_add_15 : decode cX6_add 15 = .ok (.aload_n 0, 1) := by decide +kernel
theorem dX6_add_16 : decode cX6_add 16 = .ok (.getfield 15, 3) := by decide +kernel
theorem dX6_add_19 : decode cX6_add 19 = .ok (.aload_n 0, 1) := by decide +kernel
theorem dX6_add_20 : decode cX6_add 20 = .ok (.getfield 30, 3) := by decide +kernel
theorem dX6_add_23 : decode cX6_add 23 = .ok (.iload_n 1, 1) := by decide +kernel
theorem dX6_add_24 : decode cX6_add 24 = .ok (.iastore, 1) := by decide +kernel
theorem dX6_add_25 : decode cX6_add 25 = .ok (.aload_n 0, 1) := by decide +kernel
theorem dX6_add_26 : decode cX6_add 26 = .ok (.getfield 18, 3) := by decide +kernel
theorem dX6_add_29 : decode cX6_add 29 = .ok (.aload_n 0, 1) := by decide +kernel
theorem dX6_add_30 : decode cX6_add 30 = .ok (.getfield 30, 3) := by decide +kernel
theorem dX6_add_33 : decode cX6_add 33 = .ok (.iload_n 3, 1) := by decide +kernel
theorem dX6_add_34 : decode cX6_add 34 = .ok (.iastore, 1) := by decide +kernel
theorem dX6_add_35 : decode cX6_add 35 = .ok (.aload_n 0, 1) := by decide +kernel
theorem dX6_add_36 : decode cX6_add 36 = .ok (.dup, 1) := by decide +kernel
theorem dX6_add_37 : decode cX6_add 37 = .ok (.getfield 30, 3) := by decide +kernel
theorem dX6_add_40 : decode cX6_add 40 = .ok (.iconst 1, 1) := by decide +kernel
theorem dX6_add_41 : decode cX6_add 41 = .ok (.iadd, 1) := by decide +kernel
theorem dX6_add_42 : decode cX6_add 42 = .ok (.putfield 30, 3) := by decide +kernel
theorem dX6_add_45 : decode cX6_add 45 = .ok (.aload_n 0, 1) := by decide +kernel
theorem dX6_add_46 : decode cX6_add 46 = .ok (.getfield 30, 3) := by decide +kernel
theorem dX6_add_49 : decode cX6_add 49 = .ok (.iconst 1, 1) := by decide +kernel
theorem dX6_add_50 : decode cX6_add 50 = .ok (.isub, 1) := by decide +kernel
theorem dX6_add_51 : decode cX6_add 51 = .ok (.ireturn, 1) := by decide +kernel
theorem b_X6_add_0 {x1 : Int} {x2 : Int} {x3 : Int} {σ : St} {Q : Res → St → Prop} (h : (0 ≤ σ 7 0 0 ∧ (σ 7 0 0) < 20) ∧ ((0 ≤ σ 7 0 0 ∧ (σ 7 0 0) < 20) ∧ ((0 ≤ σ 7 0 0 ∧ (σ 7 0 0) < 20) ∧ ((in32 ((σ 7 0 0) + 1)) ∧ ((in32 (((σ 7 0 0) + 1) - 1)) ∧ (Q (.inl (some (vI (((σ 7 0 0) + 1) - 1)))) (up (up (up (up (up σ 7 0 2 x1) 40 0 ((σ 7 0 0).toNat) x2) 41 0 ((σ 7 0 0).toNat) x1) 42 0 ((σ 7 0 0).toNat) x3) 7 0 0 ((σ 7 0 0) + 1)))))))) : WP mX6_add 0 [vR 7 0, vI x1, vI x2, vI x3] [] σ Q := by
  refine wp_aload_n dX6_add_0 rfl rfl ?_
  refine wp_iload_n dX6_add_1 rfl rfl ?_
  refine wp_putI dX6_add_2 fp_CustomValley_Seen_37 rfl rfl rfl ?_
  refine wp_aload_n dX6_add_5 rfl rfl ?_
  refine wp_getR dX6_add_6 fl_CustomValley_Seen_9 rfl rfl ?_
  refine wp_aload_n dX6_add_9 rfl rfl ?_
  refine wp_getI dX6_add_10 fl_CustomValley_Seen_30 rfl rfl rfl ?_
  rw [show (up σ 7 0 2 x1) 7 0 0 = σ 7 0 0 from by simp [up]]
  refine wp_iload_n dX6_add_13 rfl rfl ?_
  have s5 := h.1
  replace h := h.2
  refine wp_iastore dX6_add_14 rfl rfl s5.1 s5.2 ?_
  refine wp_aload_n dX6_add_15 rfl rfl ?_
  refine wp_getR dX6_add_16 fl_CustomValley_Seen_15 rfl rfl ?_
  refine wp_aload_n dX6_add_19 rfl rfl ?_
  refine wp_getI dX6_add_20 fl_CustomValley_Seen_30 rfl rfl rfl ?_
  rw [show (up (up σ 7 0 2 x1) 40 0 ((σ 7 0 0).toNat) x2) 7 0 0 = σ 7 0 0 from by simp [up]]
  refine wp_iload_n dX6_add_23 rfl rfl ?_
  have s4 := h.1
  replace h := h.2
  refine wp_iastore dX6_add_24 rfl rfl s4.1 s4.2 ?_
  refine wp_aload_n dX6_add_25 rfl rfl ?_
  refine wp_getR dX6_add_26 fl_CustomValley_Seen_18 rfl rfl ?_
  refine wp_aload_n dX6_add_29 rfl rfl ?_
  refine wp_getI dX6_add_30 fl_CustomValley_Seen_30 rfl rfl rfl ?_
  rw [show (up (up (up σ 7 0 2 x1) 40 0 ((σ 7 0 0).toNat) x2) 41 0 ((σ 7 0 0).toNat) x1) 7 0 0 = σ 7 0 0 from by simp [up]]
  refine wp_iload_n dX6_add_33 rfl rfl ?_
  have s3 := h.1
  replace h := h.2
  refine wp_iastore dX6_add_34 rfl rfl s3.1 s3.2 ?_
  refine wp_aload_n dX6_add_35 rfl rfl ?_
  refine wp_dup dX6_add_36 ?_
  refine wp_getI dX6_add_37 fl_CustomValley_Seen_30 rfl rfl rfl ?_
  rw [show (up (up (up (up σ 7 0 2 x1) 40 0 ((σ 7 0 0).toNat) x2) 41 0 ((σ 7 0 0).toNat) x1) 42 0 ((σ 7 0 0).toNat) x3) 7 0 0 = σ 7 0 0 from by simp [up]]
  refine wp_iconst dX6_add_40 rfl ?_
  have s2 := h.1
  replace h := h.2
  refine wp_iadd dX6_add_41 ?_ (h1 := s2.1) (h2 := s2.2)
  refine wp_putI dX6_add_42 fp_CustomValley_Seen_30 rfl rfl rfl ?_
  refine wp_aload_n dX6_add_45 rfl rfl ?_
  refine wp_getI dX6_add_46 fl_CustomValley_Seen_30 rfl rfl rfl ?_
  rw [show (up (up (up (up (up σ 7 0 2 x1) 40 0 ((σ 7 0 0).toNat) x2) 41 0 ((σ 7 0 0).toNat) x1) 42 0 ((σ 7 0 0).toNat) x3) 7 0 0 ((σ 7 0 0) + 1)) 7 0 0 = (σ 7 0 0) + 1 from by simp [up]]
  refine wp_iconst dX6_add_49 rfl ?_
  have s1 := h.1
  replace h := h.2
  refine wp_isub dX6_add_50 ?_ (h1 := s1.1) (h2 := s1.2)
  exact wp_iret dX6_add_51 rfl h
theorem dX6_change_0 : decode cX6_change 0 = .ok (.aload_n 0, 1) := by decide +kernel
theorem dX6_change_1 : decode cX6_change 1 = .ok (.iload_n 1, 1) := by decide +kernel
theorem dX6_change_2 : decode cX6_change 2 = .ok (.putfield 37, 3) := by decide +kernel
theorem dX6_change_5 : decode cX6_change 5 = .ok (.aload_n 0, 1) := by decide +kernel
theorem dX6_change_6 : decode cX6_change 6 = .ok (.getfield 21, 3) := by decide +kernel
theorem dX6_change_9 : decode cX6_change 9 = .ok (.aload_n 0, 1) := by decide +kernel
theorem dX6_change_10 : decode cX6_change 10 = .ok (.getfield 34, 3) := by decide +kernel
theorem dX6_change_13 : decode cX6_change 13 = .ok (.iload_n 2, 1) := by decide +kernel
theorem dX6_change_14 : decode cX6_change 14 = .ok (.iastore, 1) := by decide +kernel
theorem dX6_change_15 : decode cX6_change 15 = .ok (.aload_n 0, 1) := by decide +kernel
theorem dX6_change_16 : decode cX6_change 16 = .ok (.getfield 24, 3) := by decide +kernel
theorem dX6_change_19 : decode cX6_change 19 = .ok (.aload_n 0, 1) := by decide +kernel
theorem dX6_change_20 : decode cX6_change 20 = .ok (.getfield 34, 3) := by decide +kernel
theorem dX6_change_23 : decode cX6_change 23 = .ok (.iload_n 1, 1) := by decide +kernel
theorem dX6_change_24 : decode cX6_change 24 = .ok (.iastore, 1) := by decide +kernel
theorem dX6_change_25 : decode cX6_change 25 = .ok (.aload_n 0, 1) := by decide +kernel
theorem dX6_change_26 : decode cX6_change 26 = .ok (.getfield 27, 3) := by decide +kernel
theorem dX6_change_29 : decode cX6_change 29 = .ok (.aload_n 0, 1) := by decide +kernel
theorem dX6_change_30 : decode cX6_change 30 = .ok (.getfield 34, 3) := by decide +kernel
theorem dX6_change_33 : decode cX6_change 33 = .ok (.iload_n 3, 1) := by decide +kernel
theorem dX6_change_34 : decode cX6_change 34 = .ok (.iastore, 1) := by decide +kernel
theorem dX6_change_35 : decode cX6_change 35 = .ok (.aload_n 0, 1) := by decide +kernel
theorem dX6_change_36 : decode cX6_change 36 = .ok (.dup, 1) := by decide +kernel
theorem dX6_change_37 : decode cX6_change 37 = .ok (.getfield 34, 3) := by decide +kernel
theorem dX6_change_40 : decode cX6_change 40 = .ok (.iconst 1, 1) := by decide +kernel
theorem dX6_change_41 : decode cX6_change 41 = .ok (.iadd, 1) := by decide +kernel
theorem dX6_change_42 : decode cX6_change 42 = .ok (.putfield 34, 3) := by decide +kernel
theorem dX6_change_45 : decode cX6_change 45 = .ok (.iconst 0, 1) := by decide +kernel
theorem dX6_change_46 : decode cX6_change 46 = .ok (.istore 4, 2) := by decide +kernel
theorem dX6_change_48 : decode cX6_change 48 = .ok (.iconst 0, 1) := by decide +kernel
theorem dX6_change_49 : decode cX6_change 49 = .ok (.istore 5, 2) := by decide +kernel
theorem dX6_change_51 : decode cX6_change 51 = .ok (.iload 5, 2) := by decide +kernel
theorem dX6_change_53 : decode cX6_change 53 = .ok (.aload_n 0, 1) := by decide +kernel
theorem dX6_change_54 : decode cX6_change 54 = .ok (.getfield 34, 3) := by decide +kernel
theorem dX6_change_57 : decode cX6_change 57 = .ok (.if_icmp .ge 23, 3) := by decide +kernel
theorem dX6_change_60 : decode cX6_change 60 = .ok (.aload_n 0, 1) := by decide +kernel
theorem dX6_change_61 : decode cX6_change 61 = .ok (.getfield 21, 3) := by decide +kernel
theorem dX6_change_64 : decode cX6_change 64 = .ok (.iload 5, 2) := by decide +kernel
theorem dX6_change_66 : decode cX6_change 66 = .ok (.iaload, 1) := by decide +kernel
theorem dX6_change_67 : decode cX6_change 67 = .ok (.iload_n 2, 1) := by decide +kernel
theorem dX6_change_68 : decode cX6_change 68 = .ok (.if_icmp .ne 6, 3) := by decide +kernel
theorem dX6_change_71 : decode cX6_change 71 = .ok (.iinc 4 1, 3) := by decide +kernel
theorem dX6_change_74 : decode cX6_change 74 = .ok (.iinc 5 1, 3) := by decide +kernel
theorem dX6_change_77 : decode cX6_change 77 = .ok (.goto (-26), 3) := by decide +kernel
theorem dX6_change_80 : decode cX6_change 80 = .ok (.iload 4, 2) := by decide +kernel
theorem dX6_change_82 : decode cX6_change 82 = .ok (.ireturn, 1) := by decide +kernel
theorem b_X6_change_0 {x1 : Int} {x2 : Int} {x3 : Int} {σ : St} {Q : Res → St → Prop} (h : (0 ≤ σ 7 0 1 ∧ (σ 7 0 1) < 20) ∧ ((0 ≤ σ 7 0 1 ∧ (σ 7 0 1) < 20) ∧ ((0 ≤ σ 7 0 1 ∧ (σ 7 0 1) < 20) ∧ ((in32 ((σ 7 0 1) + 1)) ∧ (WP mX6_change 51 [vR 7 0, vU, vI x2, vU, vI 0, vI 0] [] (up (up (up (up (up σ 7 0 2 x1) 43 0 ((σ 7 0 1).toNat) x2) 44 0 ((σ 7 0 1).toNat) x1) 45 0 ((σ 7 0 1).toNat) x3) 7 0 1 ((σ 7 0 1) + 1)) Q))))) : WP mX6_change 0 [vR 7 0, vI x1, vI x2, vI x3, vU, vU] [] σ Q := by
  refine wp_aload_n dX6_change_0 rfl rfl ?_
  refine wp_iload_n dX6_change_1 rfl rfl ?_
  refine wp_putI dX6_change_2 fp_CustomValley_Seen_37 rfl rfl rfl ?_
  refine wp_aload_n dX6_change_5 rfl rfl ?_
  refine wp_getR dX6_change_6 fl_CustomValley_Seen_21 rfl rfl ?_
  refine wp_aload_n dX6_change_9 rfl rfl ?_
  refine wp_getI dX6_change_10 fl_CustomValley_Seen_34 rfl rfl rfl ?_
  rw [show (up σ 7 0 2 x1) 7 0 1 = σ 7 0 1 from by simp [up]]
  refine wp_iload_n dX6_change_13 rfl rfl ?_
  have s4 := h.1
  replace h := h.2
  refine wp_iastore dX6_change_14 rfl rfl s4.1 s4.2 ?_
  refine wp_aload_n dX6_change_15 rfl rfl ?_
  refine wp_getR dX6_change_16 fl_CustomValley_Seen_24 rfl rfl ?_
  refine wp_aload_n dX6_change_19 rfl rfl ?_
  refine wp_getI dX6_change_20 fl_CustomValley_Seen_34 rfl rfl rfl ?_
  rw [show (up (up σ 7 0 2 x1) 43 0 ((σ 7 0 1).toNat) x2) 7 0 1 = σ 7 0 1 from by simp [up]]
  refine wp_iload_n dX6_change_23 rfl rfl ?_
  have s3 := h.1
  replace h := h.2
  refine wp_iastore dX6_change_24 rfl rfl s3.1 s3.2 ?_
  refine wp_aload_n dX6_change_25 rfl rfl ?_
  refine wp_getR dX6_change_26 fl_CustomValley_Seen_27 rfl rfl ?_
  refine wp_aload_n dX6_change_29 rfl rfl ?_
  refine wp_getI dX6_change_30 fl_CustomValley_Seen_34 rfl rfl rfl ?_
  rw [show (up (up (up σ 7 0 2 x1) 43 0 ((σ 7 0 1).toNat) x2) 44 0 ((σ 7 0 1).toNat) x1) 7 0 1 = σ 7 0 1 from by simp [up]]
  refine wp_iload_n dX6_change_33 rfl rfl ?_
  have s2 := h.1
  replace h := h.2
  refine wp_iastore dX6_change_34 rfl rfl s2.1 s2.2 ?_
  refine wp_aload_n dX6_change_35 rfl rfl ?_
  refine wp_dup dX6_change_36 ?_
  refine wp_getI dX6_change_37 fl_CustomValley_Seen_34 rfl rfl rfl ?_
  rw [show (up (up (up (up σ 7 0 2 x1) 43 0 ((σ 7 0 1).toNat) x2) 44 0 ((σ 7 0 1).toNat) x1) 45 0 ((σ 7 0 1).toNat) x3) 7 0 1 = σ 7 0 1 from by simp [up]]
  refine wp_iconst dX6_change_40 rfl ?_
  have s1 := h.1
  replace h := h.2
  refine wp_iadd dX6_change_41 ?_ (h1 := s1.1) (h2 := s1.2)
  refine wp_putI dX6_change_42 fp_CustomValley_Seen_34 rfl rfl rfl ?_
  refine wp_iconst dX6_change_45 rfl ?_
  refine wp_istore dX6_change_46 (by decide) rfl rfl ?_
  refine wp_iconst dX6_change_48 rfl ?_
  refine wp_istore dX6_change_49 (by decide) rfl rfl ?_
  exact wp_drop (als' := [vR 7 0, vU, vI x2, vU, vI 0, vI 0]) (lle_c (Or.inl rfl) (lle_c (Or.inr rfl) (lle_c (Or.inl rfl) (lle_c (Or.inr rfl) (lle_c (Or.inl rfl) (lle_c (Or.inl rfl) lle_n)))))) h
theorem b_X6_change_51 {x2 : Int} {x4 : Int} {x5 : Int} {σ : St} {Q : Res → St → Prop} (h : (((σ 7 0 1) ≤ x5) → (Q (.inl (some (vI x4))) σ)) ∧ ((x5 < (σ 7 0 1)) → ((0 ≤ x5 ∧ x5 < 20) ∧ ((((σ 43 0 x5.toNat) ≠ x2) → ((in32 (x5 + 1)) ∧ (WP mX6_change 51 [vR 7 0, vU, vI x2, vU, vI x4, vI (x5 + 1)] [] σ Q))) ∧ (((σ 43 0 x5.toNat) = x2) → ((in32 (x4 + 1)) ∧ ((in32 (x5 + 1)) ∧ (WP mX6_change 51 [vR 7 0, vU, vI x2, vU, vI (x4 + 1), vI (x5 + 1)] [] σ Q)))))))) : WP mX6_change 51 [vR 7 0, vU, vI x2, vU, vI x4, vI x5] [] σ Q := by
  refine wp_iload dX6_change_51 rfl ?_
  refine wp_aload_n dX6_change_53 rfl rfl ?_
  refine wp_getI dX6_change_54 fl_CustomValley_Seen_34 rfl rfl rfl ?_
  refine wp_icmp_ge (tgt := 80) dX6_change_57 (by decide) (fun hc => ?_) (fun hc => ?_)
  · replace h := h.1 hc
    refine wp_iload dX6_change_80 rfl ?_
    exact wp_iret dX6_change_82 rfl h
  · replace h := h.2 hc
    refine wp_aload_n dX6_change_60 rfl rfl ?_
    refine wp_getR dX6_change_61 fl_CustomValley_Seen_21 rfl rfl ?_
    refine wp_iload dX6_change_64 rfl ?_
    have s4 := h.1
    replace h := h.2
    refine wp_iaload dX6_change_66 rfl rfl s4.1 s4.2 ?_
    refine wp_iload_n dX6_change_67 rfl rfl ?_
    refine wp_icmp_ne (tgt := 74) dX6_change_68 (by decide) (fun hc => ?_) (fun hc => ?_)
    · replace h := h.1 hc
      have s1 := h.1
      replace h := h.2
      refine wp_iinc dX6_change_74 rfl (by decide) rfl rfl ?_ (h1 := s1.1) (h2 := s1.2)
      refine wp_goto (tgt := 51) dX6_change_77 (by decide) ?_
      exact h
    · replace h := h.2 hc
      have s3 := h.1
      replace h := h.2
      refine wp_iinc dX6_change_71 rfl (by decide) rfl rfl ?_ (h1 := s3.1) (h2 := s3.2)
      have s2 := h.1
      replace h := h.2
      refine wp_iinc dX6_change_74 rfl (by decide) rfl rfl ?_ (h1 := s2.1) (h2 := s2.2)
      refine wp_goto (tgt := 51) dX6_change_77 (by decide) ?_
      exact h
theorem dX6_clear_0 : decode cX6_clear 0 = .ok (.aload_n 0, 1) := by decide +kernel
theorem dX6_clear_1 : decode cX6_clear 1 = .ok (.iconst 0, 1) := by decide +kernel
theorem dX6_clear_2 : decode cX6_clear 2 = .ok (.putfield 30, 3) := by decide +kernel
theorem dX6_clear_5 : decode cX6_clear 5 = .ok (.aload_n 0, 1) := by decide +kernel
theorem dX6_clear_6 : decode cX6_clear 6 = .ok (.iconst 0, 1) := by decide +kernel
theorem dX6_clear_7 : decode cX6_clear 7 = .ok (.putfield 34, 3) := by decide +kernel
theorem dX6_clear_10 : decode cX6_clear 10 = .ok (.aload_n 0, 1) := by decide +kernel
theorem dX6_clear_11 : decode cX6_clear 11 = .ok (.iconst 0, 1) := by decide +kernel
theorem dX6_clear_12 : decode cX6_clear 12 = .ok (.putfield 37, 3) := by decide +kernel
theorem dX6_clear_15 : decode cX6_clear 15 = .ok (.return_, 1) := by decide +kernel
theorem b_X6_clear_0  {σ : St} {Q : Res → St → Prop} (h : Q (.inl none) (up (up (up σ 7 0 0 0) 7 0 1 0) 7 0 2 0)) : WP mX6_clear 0 [vR 7 0] [] σ Q := by
  refine wp_aload_n dX6_clear_0 rfl rfl ?_
  refine wp_iconst dX6_clear_1 rfl ?_
  refine wp_putI dX6_clear_2 fp_CustomValley_Seen_30 rfl rfl rfl ?_
  refine wp_aload_n dX6_clear_5 rfl rfl ?_
  refine wp_iconst dX6_clear_6 rfl ?_
  refine wp_putI dX6_clear_7 fp_CustomValley_Seen_34 rfl rfl rfl ?_
  refine wp_aload_n dX6_clear_10 rfl rfl ?_
  refine wp_iconst dX6_clear_11 rfl ?_
  refine wp_putI dX6_clear_12 fp_CustomValley_Seen_37 rfl rfl rfl ?_
  exact wp_ret dX6_clear_15 rfl h
theorem dX6_knownAt_0 : decode cX6_knownAt 0 = .ok (.aload_n 0, 1) := by decide +kernel
theorem dX6_knownAt_1 : decode cX6_knownAt 1 = .ok (.getfield 15, 3) := by decide +kernel
theorem dX6_knownAt_4 : decode cX6_knownAt 4 = .ok (.iload_n 2, 1) := by decide +kernel
theorem dX6_knownAt_5 : decode cX6_knownAt 5 = .ok (.iaload, 1) := by decide +kernel
theorem dX6_knownAt_6 : decode cX6_knownAt 6 = .ok (.iload_n 1, 1) := by decide +kernel
theorem dX6_knownAt_7 : decode cX6_knownAt 7 = .ok (.if_icmp .le 5, 3) := by decide +kernel
theorem dX6_knownAt_10 : decode cX6_knownAt 10 = .ok (.iconst (-1), 1) := by decide +kernel
theorem dX6_knownAt_11 : decode cX6_knownAt 11 = .ok (.ireturn, 1) := by decide +kernel
theorem dX6_knownAt_12 : decode cX6_knownAt 12 = .ok (.aload_n 0, 1) := by decide +kernel
theorem dX6_knownAt_13 : decode cX6_knownAt 13 = .ok (.getfield 18, 3) := by decide +kernel
theorem dX6_knownAt_16 : decode cX6_knownAt 16 = .ok (.iload_n 2, 1) := by decide +kernel
theorem dX6_knownAt_17 : decode cX6_knownAt 17 = .ok (.iaload, 1) := by decide +kernel
theorem dX6_knownAt_18 : decode cX6_knownAt 18 = .ok (.istore_n 3, 1) := by decide +kernel
theorem dX6_knownAt_19 : decode cX6_knownAt 19 = .ok (.iconst 0, 1) := by decide +kernel
theorem dX6_knownAt_20 : decode cX6_knownAt 20 = .ok (.istore 4, 2) := by decide +kernel
theorem dX6_knownAt_22 : decode cX6_knownAt 22 = .ok (.iload 4, 2) := by decide +kernel
theorem dX6_knownAt_24 : decode cX6_knownAt 24 = .ok (.aload_n 0, 1) := by decide +kernel
theorem dX6_knownAt_25 : decode cX6_knownAt 25 = .ok (.getfield 34, 3) := by decide +kernel
theorem dX6_knownAt_28 : decode cX6_knownAt 28 = .ok (.if_icmp .ge 39, 3) := by decide +kernel
theorem dX6_knownAt_31 : decode cX6_knownAt 31 = .ok (.aload_n 0, 1) := by decide +kernel
theorem dX6_knownAt_32 : decode cX6_knownAt 32 = .ok (.getfield 21, 3) := by decide +kernel
theorem dX6_knownAt_35 : decode cX6_knownAt 35 = .ok (.iload 4, 2) := by decide +kernel
theorem dX6_knownAt_37 : decode cX6_knownAt 37 = .ok (.iaload, 1) := by decide +kernel
theorem dX6_knownAt_38 : decode cX6_knownAt 38 = .ok (.iload_n 2, 1) := by decide +kernel
theorem dX6_knownAt_39 : decode cX6_knownAt 39 = .ok (.if_icmp .ne 22, 3) := by decide +kernel
theorem dX6_knownAt_42 : decode cX6_knownAt 42 = .ok (.aload_n 0, 1) := by decide +kernel
theorem dX6_knownAt_43 : decode cX6_knownAt 43 = .ok (.getfield 24, 3) := by decide +kernel
theorem dX6_knownAt_46 : decode cX6_knownAt 46 = .ok (.iload 4, 2) := by decide +kernel
theorem dX6_knownAt_48 : decode cX6_knownAt 48 = .ok (.iaload, 1) := by decide +kernel
theorem dX6_knownAt_49 : decode cX6_knownAt 49 = .ok (.iload_n 1, 1) := by decide +kernel
theorem dX6_knownAt_50 : decode cX6_knownAt 50 = .ok (.if_icmp .gt 11, 3) := by decide +kernel
theorem dX6_knownAt_53 : decode cX6_knownAt 53 = .ok (.aload_n 0, 1) := by decide +kernel
theorem dX6_knownAt_54 : decode cX6_knownAt 54 = .ok (.getfield 27, 3) := by decide +kernel
theorem dX6_knownAt_57 : decode cX6_knownAt 57 = .ok (.iload 4, 2) := by decide +kernel
theorem dX6_knownAt_59 : decode cX6_knownAt 59 = .ok (.iaload, 1) := by decide +kernel
theorem dX6_knownAt_60 : decode cX6_knownAt 60 = .ok (.istore_n 3, 1) := by decide +kernel
theorem dX6_knownAt_61 : decode cX6_knownAt 61 = .ok (.iinc 4 1, 3) := by decide +kernel
theorem dX6_knownAt_64 : decode cX6_knownAt 64 = .ok (.goto (-42), 3) := by decide +kernel
theorem dX6_knownAt_67 : decode cX6_knownAt 67 = .ok (.iload_n 3, 1) := by decide +kernel
theorem dX6_knownAt_68 : decode cX6_knownAt 68 = .ok (.ireturn, 1) := by decide +kernel
theorem b_X6_knownAt_0 {x1 : Int} {x2 : Int} {σ : St} {Q : Res → St → Prop} (h : (0 ≤ x2 ∧ x2 < 20) ∧ ((((σ 41 0 x2.toNat) ≤ x1) → ((0 ≤ x2 ∧ x2 < 20) ∧ (WP mX6_knownAt 22 [vR 7 0, vI x1, vI x2, vI (σ 42 0 x2.toNat), vI 0] [] σ Q))) ∧ ((x1 < (σ 41 0 x2.toNat)) → (Q (.inl (some (vI (-1)))) σ)))) : WP mX6_knownAt 0 [vR 7 0, vI x1, vI x2, vU, vU] [] σ Q := by
  refine wp_aload_n dX6_knownAt_0 rfl rfl ?_
  refine wp_getR dX6_knownAt_1 fl_CustomValley_Seen_15 rfl rfl ?_
  refine wp_iload_n dX6_knownAt_4 rfl rfl ?_
  have s2 := h.1
  replace h := h.2
  refine wp_iaload dX6_knownAt_5 rfl rfl s2.1 s2.2 ?_
  refine wp_iload_n dX6_knownAt_6 rfl rfl ?_
  refine wp_icmp_le (tgt := 12) dX6_knownAt_7 (by decide) (fun hc => ?_) (fun hc => ?_)
  · replace h := h.1 hc
    refine wp_aload_n dX6_knownAt_12 rfl rfl ?_
    refine wp_getR dX6_knownAt_13 fl_CustomValley_Seen_18 rfl rfl ?_
    refine wp_iload_n dX6_knownAt_16 rfl rfl ?_
    have s1 := h.1
    replace h := h.2
    refine wp_iaload dX6_knownAt_17 rfl rfl s1.1 s1.2 ?_
    refine wp_istore_n dX6_knownAt_18 rfl (by decide) rfl rfl ?_
    refine wp_iconst dX6_knownAt_19 rfl ?_
    refine wp_istore dX6_knownAt_20 (by decide) rfl rfl ?_
    exact h
  · replace h := h.2 hc
    refine wp_iconst dX6_knownAt_10 rfl ?_
    exact wp_iret dX6_knownAt_11 rfl h
theorem b_X6_knownAt_22 {x1 : Int} {x2 : Int} {x3 : Int} {x4 : Int} {σ : St} {Q : Res → St → Prop} (h : (((σ 7 0 1) ≤ x4) → (Q (.inl (some (vI x3))) σ)) ∧ ((x4 < (σ 7 0 1)) → ((0 ≤ x4 ∧ x4 < 20) ∧ ((((σ 43 0 x4.toNat) ≠ x2) → ((in32 (x4 + 1)) ∧ (WP mX6_knownAt 22 [vR 7 0, vI x1, vI x2, vI x3, vI (x4 + 1)] [] σ Q))) ∧ (((σ 43 0 x4.toNat) = x2) → ((0 ≤ x4 ∧ x4 < 20) ∧ (((x1 < (σ 44 0 x4.toNat)) → ((in32 (x4 + 1)) ∧ (WP mX6_knownAt 22 [vR 7 0, vI x1, vI x2, vI x3, vI (x4 + 1)] [] σ Q))) ∧ (((σ 44 0 x4.toNat) ≤ x1) → ((0 ≤ x4 ∧ x4 < 20) ∧ ((in32 (x4 + 1)) ∧ (WP mX6_knownAt 22 [vR 7 0, vI x1, vI x2, vI (σ 45 0 x4.toNat), vI (x4 + 1)] [] σ Q))))))))))) : WP mX6_knownAt 22 [vR 7 0, vI x1, vI x2, vI x3, vI x4] [] σ Q := by
  refine wp_iload dX6_knownAt_22 rfl ?_
  refine wp_aload_n dX6_knownAt_24 rfl rfl ?_
  refine wp_getI dX6_knownAt_25 fl_CustomValley_Seen_34 rfl rfl rfl ?_
  refine wp_icmp_ge (tgt := 67) dX6_knownAt_28 (by decide) (fun hc => ?_) (fun hc => ?_)
  · replace h := h.1 hc
    refine wp_iload_n dX6_knownAt_67 rfl rfl ?_
    exact wp_iret dX6_knownAt_68 rfl h
  · replace h := h.2 hc
    refine wp_aload_n dX6_knownAt_31 rfl rfl ?_
    refine wp_getR dX6_knownAt_32 fl_CustomValley_Seen_21 rfl rfl ?_
    refine wp_iload dX6_knownAt_35 rfl ?_
    have s6 := h.1
    replace h := h.2
    refine wp_iaload dX6_knownAt_37 rfl rfl s6.1 s6.2 ?_
    refine wp_iload_n dX6_knownAt_38 rfl rfl ?_
    refine wp_icmp_ne (tgt := 61) dX6_knownAt_39 (by decide) (fun hc => ?_) (fun hc => ?_)
    · replace h := h.1 hc
      have s1 := h.1
      replace h := h.2
      refine wp_iinc dX6_knownAt_61 rfl (by decide) rfl rfl ?_ (h1 := s1.1) (h2 := s1.2)
      refine wp_goto (tgt := 22) dX6_knownAt_64 (by decide) ?_
      exact h
    · replace h := h.2 hc
      refine wp_aload_n dX6_knownAt_42 rfl rfl ?_
      refine wp_getR dX6_knownAt_43 fl_CustomValley_Seen_24 rfl rfl ?_
      refine wp_iload dX6_knownAt_46 rfl ?_
      have s5 := h.1
      replace h := h.2
      refine wp_iaload dX6_knownAt_48 rfl rfl s5.1 s5.2 ?_
      refine wp_iload_n dX6_knownAt_49 rfl rfl ?_
      refine wp_icmp_gt (tgt := 61) dX6_knownAt_50 (by decide) (fun hc => ?_) (fun hc => ?_)
      · replace h := h.1 hc
        have s2 := h.1
        replace h := h.2
        refine wp_iinc dX6_knownAt_61 rfl (by decide) rfl rfl ?_ (h1 := s2.1) (h2 := s2.2)
        refine wp_goto (tgt := 22) dX6_knownAt_64 (by decide) ?_
        exact h
      · replace h := h.2 hc
        refine wp_aload_n dX6_knownAt_53 rfl rfl ?_
        refine wp_getR dX6_knownAt_54 fl_CustomValley_Seen_27 rfl rfl ?_
        refine wp_iload dX6_knownAt_57 rfl ?_
        have s4 := h.1
        replace h := h.2
        refine wp_iaload dX6_knownAt_59 rfl rfl s4.1 s4.2 ?_
        refine wp_istore_n dX6_knownAt_60 rfl (by decide) rfl rfl ?_
        have s3 := h.1
        replace h := h.2
        refine wp_iinc dX6_knownAt_61 rfl (by decide) rfl rfl ?_ (h1 := s3.1) (h2 := s3.2)
        refine wp_goto (tgt := 22) dX6_knownAt_64 (by decide) ?_
        exact h
theorem dX7_add_0 : decode cX7_add 0 = .ok (.bipush 24, 2) := by decide +kernel
theorem dX7_add_2 : decode cX7_add 2 = .ok (.istore_n 2, 1) := by decide +kernel
theorem dX7_add_3 : decode cX7_add 3 = .ok (.iload_n 2, 1) := by decide +kernel
theorem dX7_add_4 : decode cX7_add 4 = .ok (.ifCond .lt 42, 3) := by decide +kernel
theorem dX7_add_7 : decode cX7_add 7 = .ok (.aload_n 0, 1) := by decide +kernel
theorem dX7_add_8 : decode cX7_add 8 = .ok (.getfield 15, 3) := by decide +kernel
theorem dX7_add_11 : decode cX7_add 11 = .ok (.sipush 700, 3) := by decide +kernel
theorem dX7_add_14 : decode cX7_add 14 = .ok (.if_icmp .ge 26, 3) := by decide +kernel
theorem dX7_add_17 : decode cX7_add 17 = .ok (.aload_n 0, 1) := by decide +kernel
theorem dX7_add_18 : decode cX7_add 18 = .ok (.getfield 9, 3) := by decide +kernel
theorem dX7_add_21 : decode cX7_add 21 = .ok (.aload_n 0, 1) := by decide +kernel
theorem dX7_add_22 : decode cX7_add 22 = .ok (.getfield 15, 3) := by decide +kernel
theorem dX7_add_25 : decode cX7_add 25 = .ok (.iload_n 1, 1) := by decide +kernel
theorem dX7_add_26 : decode cX7_add 26 = .ok (.iload_n 2, 1) := by decide +kernel
theorem dX7_add_27 : decode cX7_add 27 = .ok (.ishr, 1) := by decide +kernel
theorem dX7_add_28 : decode cX7_add 28 = .ok (.i2b, 1) := by decide +kernel
theorem dX7_add_29 : decode cX7_add 29 = .ok (.bastore, 1) := by decide +kernel
theorem dX7_add_30 : decode cX7_add 30 = .ok (.aload_n 0, 1) := by decide +kernel
theorem dX7_add_31 : decode cX7_add 31 = .ok (.dup, 1) := by decide +kernel
theorem dX7_add_32 : decode cX7_add 32 = .ok (.getfield 15, 3) := by decide +kernel
theorem dX7_add_35 : decode cX7_add 35 = .ok (.iconst 1, 1) := by decide +kernel
theorem dX7_add_36 : decode cX7_add 36 = .ok (.iadd, 1) := by decide +kernel
theorem dX7_add_37 : decode cX7_add 37 = .ok (.putfield 15, 3) := by decide +kernel
theorem dX7_add_40 : decode cX7_add 40 = .ok (.iinc 2 (-8), 3) := by decide +kernel
theorem dX7_add_43 : decode cX7_add 43 = .ok (.goto (-40), 3) := by decide +kernel
theorem dX7_add_46 : decode cX7_add 46 = .ok (.return_, 1) := by decide +kernel
theorem b_X7_add_0 {x1 : Int} {σ : St} {Q : Res → St → Prop} (h : WP mX7_add 3 [vR 8 0, vI x1, vI 24] [] σ Q) : WP mX7_add 0 [vR 8 0, vI x1, vU] [] σ Q := by
  refine wp_bipush dX7_add_0 rfl ?_
  refine wp_istore_n dX7_add_2 rfl (by decide) rfl rfl ?_
  exact h
theorem b_X7_add_3 {x1 : Int} {x2 : Int} {σ : St} {Q : Res → St → Prop} (h : ((x2 < 0) → (Q (.inl none) σ)) ∧ ((0 ≤ x2) → (((700 ≤ (σ 8 0 1)) → ((in32 (x2 + (-8))) ∧ (WP mX7_add 3 [vR 8 0, vI x1, vI (x2 + (-8))] [] σ Q))) ∧ (((σ 8 0 1) < 700) → ((0 ≤ σ 8 0 1 ∧ (σ 8 0 1) < 700) ∧ ((in32 ((σ 8 0 1) + 1)) ∧ ((in32 (x2 + (-8))) ∧ (WP mX7_add 3 [vR 8 0, vI x1, vI (x2 + (-8))] [] (up (up σ 46 0 ((σ 8 0 1).toNat) (i2bI (i2bI (shr x1 x2)))) 8 0 1 ((σ 8 0 1) + 1)) Q)))))))) : WP mX7_add 3 [vR 8 0, vI x1, vI x2] [] σ Q := by
  refine wp_iload_n dX7_add_3 rfl rfl ?_
  refine wp_if_lt (tgt := 46) dX7_add_4 (by decide) (fun hc => ?_) (fun hc => ?_)
  · replace h := h.1 hc
    exact wp_ret dX7_add_46 rfl h
  · replace h := h.2 hc
    refine wp_aload_n dX7_add_7 rfl rfl ?_
    refine wp_getI dX7_add_8 fl_CustomValley_Tape_15 rfl rfl rfl ?_
    refine wp_sipush dX7_add_11 rfl ?_
    refine wp_icmp_ge (tgt := 40) dX7_add_14 (by decide) (fun hc => ?_) (fun hc => ?_)
    · replace h := h.1 hc
      have s1 := h.1
      replace h := h.2
      refine wp_iinc dX7_add_40 rfl (by decide) rfl rfl ?_ (h1 := s1.1) (h2 := s1.2)
      refine wp_goto (tgt := 3) dX7_add_43 (by decide) ?_
      exact h
    · replace h := h.2 hc
      refine wp_aload_n dX7_add_17 rfl rfl ?_
      refine wp_getR dX7_add_18 fl_CustomValley_Tape_9 rfl rfl ?_
      refine wp_aload_n dX7_add_21 rfl rfl ?_
      refine wp_getI dX7_add_22 fl_CustomValley_Tape_15 rfl rfl rfl ?_
      refine wp_iload_n dX7_add_25 rfl rfl ?_
      refine wp_iload_n dX7_add_26 rfl rfl ?_
      refine wp_ishr dX7_add_27 ?_
      refine wp_i2b dX7_add_28 ?_
      have s4 := h.1
      replace h := h.2
      refine wp_bastore dX7_add_29 rfl rfl s4.1 s4.2 ?_
      refine wp_aload_n dX7_add_30 rfl rfl ?_
      refine wp_dup dX7_add_31 ?_
      refine wp_getI dX7_add_32 fl_CustomValley_Tape_15 rfl rfl rfl ?_
      rw [show (up σ 46 0 ((σ 8 0 1).toNat) (i2bI (i2bI (shr x1 x2)))) 8 0 1 = σ 8 0 1 from by simp [up]]
      refine wp_iconst dX7_add_35 rfl ?_
      have s3 := h.1
      replace h := h.2
      refine wp_iadd dX7_add_36 ?_ (h1 := s3.1) (h2 := s3.2)
      refine wp_putI dX7_add_37 fp_CustomValley_Tape_15 rfl rfl rfl ?_
      have s2 := h.1
      replace h := h.2
      refine wp_iinc dX7_add_40 rfl (by decide) rfl rfl ?_ (h1 := s2.1) (h2 := s2.2)
      refine wp_goto (tgt := 3) dX7_add_43 (by decide) ?_
      exact h
theorem dX9_addMoves_0 : decode cX9_addMoves 0 = .ok (.iconst 0, 1) := by decide +kernel
theorem dX9_addMoves_1 : decode cX9_addMoves 1 = .ok (.istore_n 2, 1) := by decide +kernel
theorem dX9_addMoves_2 : decode cX9_addMoves 2 = .ok (.iload_n 2, 1) := by decide +kernel
theorem dX9_addMoves_3 : decode cX9_addMoves 3 = .ok (.aload_n 0, 1) := by decide +kernel
theorem dX9_addMoves_4 : decode cX9_addMoves 4 = .ok (.getfield 49, 3) := by decide +kernel
theorem dX9_addMoves_7 : decode cX9_addMoves 7 = .ok (.if_icmp .ge 39, 3) := by decide +kernel
theorem dX9_addMoves_10 : decode cX9_addMoves 10 = .ok (.aload_n 0, 1) := by decide +kernel
theorem dX9_addMoves_11 : decode cX9_addMoves 11 = .ok (.getfield 24, 3) := by decide +kernel
theorem dX9_addMoves_14 : decode cX9_addMoves 14 = .ok (.aload_n 0, 1) := by decide +kernel
theorem dX9_addMoves_15 : decode cX9_addMoves 15 = .ok (.getfield 77, 3) := by decide +kernel
theorem dX9_addMoves_18 : decode cX9_addMoves 18 = .ok (.iload_n 1, 1) := by decide +kernel
theorem dX9_addMoves_19 : decode cX9_addMoves 19 = .ok (.iastore, 1) := by decide +kernel
theorem dX9_addMoves_20 : decode cX9_addMoves 20 = .ok (.aload_n 0, 1) := by decide +kernel
theorem dX9_addMoves_21 : decode cX9_addMoves 21 = .ok (.getfield 27, 3) := by decide +kernel
theorem dX9_addMoves_24 : decode cX9_addMoves 24 = .ok (.aload_n 0, 1) := by decide +kernel
theorem dX9_addMoves_25 : decode cX9_addMoves 25 = .ok (.getfield 77, 3) := by decide +kernel
theorem dX9_addMoves_28 : decode cX9_addMoves 28 = .ok (.iload_n 2, 1) := by decide +kernel
theorem dX9_addMoves_29 : decode cX9_addMoves 29 = .ok (.iastore, 1) := by decide +kernel
theorem dX9_addMoves_30 : decode cX9_addMoves 30 = .ok (.aload_n 0, 1) := by decide +kernel
theorem dX9_addMoves_31 : decode cX9_addMoves 31 = .ok (.dup, 1) := by decide +kernel
theorem dX9_addMoves_32 : decode cX9_addMoves 32 = .ok (.getfield 77, 3) := by decide +kernel
theorem dX9_addMoves_35 : decode cX9_addMoves 35 = .ok (.iconst 1, 1) := by decide +kernel
theorem dX9_addMoves_36 : decode cX9_addMoves 36 = .ok (.iadd, 1) := by decide +kernel
theorem dX9_addMoves_37 : decode cX9_addMoves 37 = .ok (.putfield 77, 3) := by decide +kernel
theorem dX9_addMoves_40 : decode cX9_addMoves 40 = .ok (.iinc 2 1, 3) := by decide +kernel
theorem dX9_addMoves_43 : decode cX9_addMoves 43 = .ok (.goto (-41), 3) := by decide +kernel
theorem dX9_addMoves_46 : decode cX9_addMoves 46 = .ok (.return_, 1) := by decide +kernel
theorem b_X9_addMoves_0 {i : Nat} {x1 : Int} {σ : St} {Q : Res → St → Prop} (h : WP mX9_addMoves 2 [vR 10 i, vI x1, vI 0] [] σ Q) : WP mX9_addMoves 0 [vR 10 i, vI x1, vU] [] σ Q := by
  refine wp_iconst dX9_addMoves_0 rfl ?_
  refine wp_istore_n dX9_addMoves_1 rfl (by decide) rfl rfl ?_
  exact h
theorem b_X9_addMoves_2 {i : Nat} {x1 : Int} {x2 : Int} {σ : St} {Q : Res → St → Prop} (h : (((σ 10 i 1) ≤ x2) → (Q (.inl none) σ)) ∧ ((x2 < (σ 10 i 1)) → ((0 ≤ σ 10 i 13 ∧ (σ 10 i 13) < 40) ∧ ((0 ≤ σ 10 i 13 ∧ (σ 10 i 13) < 40) ∧ ((in32 ((σ 10 i 13) + 1)) ∧ ((in32 (x2 + 1)) ∧ (WP mX9_addMoves 2 [vR 10 i, vI x1, vI (x2 + 1)] [] (up (up (up σ 58 i ((σ 10 i 13).toNat) x1) 59 i ((σ 10 i 13).toNat) x2) 10 i 13 ((σ 10 i 13) + 1)) Q))))))) : WP mX9_addMoves 2 [vR 10 i, vI x1, vI x2] [] σ Q := by
  refine wp_iload_n dX9_addMoves_2 rfl rfl ?_
  refine wp_aload_n dX9_addMoves_3 rfl rfl ?_
  refine wp_getI dX9_addMoves_4 fl_CustomValley_Valley_49 rfl rfl rfl ?_
  refine wp_icmp_ge (tgt := 46) dX9_addMoves_7 (by decide) (fun hc => ?_) (fun hc => ?_)
  · replace h := h.1 hc
    exact wp_ret dX9_addMoves_46 rfl h
  · replace h := h.2 hc
    refine wp_aload_n dX9_addMoves_10 rfl rfl ?_
    refine wp_getR dX9_addMoves_11 fl_CustomValley_Valley_24 rfl rfl ?_
    refine wp_aload_n dX9_addMoves_14 rfl rfl ?_
    refine wp_getI dX9_addMoves_15 fl_CustomValley_Valley_77 rfl rfl rfl ?_
    refine wp_iload_n dX9_addMoves_18 rfl rfl ?_
    have s4 := h.1
    replace h := h.2
    refine wp_iastore dX9_addMoves_19 rfl rfl s4.1 s4.2 ?_
    refine wp_aload_n dX9_addMoves_20 rfl rfl ?_
    refine wp_getR dX9_addMoves_21 fl_CustomValley_Valley_27 rfl rfl ?_
    refine wp_aload_n dX9_addMoves_24 rfl rfl ?_
    refine wp_getI dX9_addMoves_25 fl_CustomValley_Valley_77 rfl rfl rfl ?_
    rw [show (up σ 58 i ((σ 10 i 13).toNat) x1) 10 i 13 = σ 10 i 13 from by simp [up]]
    refine wp_iload_n dX9_addMoves_28 rfl rfl ?_
    have s3 := h.1
    replace h := h.2
    refine wp_iastore dX9_addMoves_29 rfl rfl s3.1 s3.2 ?_
    refine wp_aload_n dX9_addMoves_30 rfl rfl ?_
    refine wp_dup dX9_addMoves_31 ?_
    refine wp_getI dX9_addMoves_32 fl_CustomValley_Valley_77 rfl rfl rfl ?_
    rw [show (up (up σ 58 i ((σ 10 i 13).toNat) x1) 59 i ((σ 10 i 13).toNat) x2) 10 i 13 = σ 10 i 13 from by simp [up]]
    refine wp_iconst dX9_addMoves_35 rfl ?_
    have s2 := h.1
    replace h := h.2
    refine wp_iadd dX9_addMoves_36 ?_ (h1 := s2.1) (h2 := s2.2)
    refine wp_putI dX9_addMoves_37 fp_CustomValley_Valley_77 rfl rfl rfl ?_
    have s1 := h.1
    replace h := h.2
    refine wp_iinc dX9_addMoves_40 rfl (by decide) rfl rfl ?_ (h1 := s1.1) (h2 := s1.2)
    refine wp_goto (tgt := 2) dX9_addMoves_43 (by decide) ?_
    exact h
theorem dX9_meetAll_0 : decode cX9_meetAll 0 = .ok (.iconst 0, 1) := by decide +kernel
theorem dX9_meetAll_1 : decode cX9_meetAll 1 = .ok (.istore_n 1, 1) := by decide +kernel
theorem dX9_meetAll_2 : decode cX9_meetAll 2 = .ok (.iload_n 1, 1) := by decide +kernel
theorem dX9_meetAll_3 : decode cX9_meetAll 3 = .ok (.aload_n 0, 1) := by decide +kernel
theorem dX9_meetAll_4 : decode cX9_meetAll 4 = .ok (.getfield 45, 3) := by decide +kernel
theorem dX9_meetAll_7 : decode cX9_meetAll 7 = .ok (.if_icmp .ge 29, 3) := by decide +kernel
theorem dX9_meetAll_10 : decode cX9_meetAll 10 = .ok (.aload_n 0, 1) := by decide +kernel
theorem dX9_meetAll_11 : decode cX9_meetAll 11 = .ok (.getfield 18, 3) := by decide +kernel
theorem dX9_meetAll_14 : decode cX9_meetAll 14 = .ok (.iload_n 1, 1) := by decide +kernel
theorem dX9_meetAll_15 : decode cX9_meetAll 15 = .ok (.iconst 1, 1) := by decide +kernel
theorem dX9_meetAll_16 : decode cX9_meetAll 16 = .ok (.aload_n 0, 1) := by decide +kernel
theorem dX9_meetAll_17 : decode cX9_meetAll 17 = .ok (.getfield 45, 3) := by decide +kernel
theorem dX9_meetAll_20 : decode cX9_meetAll 20 = .ok (.ishl, 1) := by decide +kernel
theorem dX9_meetAll_21 : decode cX9_meetAll 21 = .ok (.iconst 1, 1) := by decide +kernel
theorem dX9_meetAll_22 : decode cX9_meetAll 22 = .ok (.isub, 1) := by decide +kernel
theorem dX9_meetAll_23 : decode cX9_meetAll 23 = .ok (.iconst 1, 1) := by decide +kernel
theorem dX9_meetAll_24 : decode cX9_meetAll 24 = .ok (.iload_n 1, 1) := by decide +kernel
theorem dX9_meetAll_25 : decode cX9_meetAll 25 = .ok (.ishl, 1) := by decide +kernel
theorem dX9_meetAll_26 : decode cX9_meetAll 26 = .ok (.iconst (-1), 1) := by decide +kernel
theorem dX9_meetAll_27 : decode cX9_meetAll 27 = .ok (.ixor, 1) := by decide +kernel
theorem dX9_meetAll_28 : decode cX9_meetAll 28 = .ok (.iand, 1) := by decide +kernel
theorem dX9_meetAll_29 : decode cX9_meetAll 29 = .ok (.iastore, 1) := by decide +kernel
theorem dX9_meetAll_30 : decode cX9_meetAll 30 = .ok (.iinc 1 1, 3) := by decide +kernel
theorem dX9_meetAll_33 : decode cX9_meetAll 33 = .ok (.goto (-31), 3) := by decide +kernel
theorem dX9_meetAll_36 : decode cX9_meetAll 36 = .ok (.return_, 1) := by decide +kernel
theorem b_X9_meetAll_0 {i : Nat} {σ : St} {Q : Res → St → Prop} (h : WP mX9_meetAll 2 [vR 10 i, vI 0] [] σ Q) : WP mX9_meetAll 0 [vR 10 i, vU] [] σ Q := by
  refine wp_iconst dX9_meetAll_0 rfl ?_
  refine wp_istore_n dX9_meetAll_1 rfl (by decide) rfl rfl ?_
  exact h
theorem b_X9_meetAll_2 {i : Nat} {x1 : Int} {σ : St} {Q : Res → St → Prop} (h : (((σ 10 i 0) ≤ x1) → (Q (.inl none) σ)) ∧ ((x1 < (σ 10 i 0)) → ((in32 ((shl 1 (σ 10 i 0)) - 1)) ∧ ((0 ≤ x1 ∧ x1 < 10) ∧ ((in32 (x1 + 1)) ∧ (WP mX9_meetAll 2 [vR 10 i, vI (x1 + 1)] [] (up σ 56 i x1.toNat (band ((shl 1 (σ 10 i 0)) - 1) (bxor (shl 1 x1) (-1)))) Q)))))) : WP mX9_meetAll 2 [vR 10 i, vI x1] [] σ Q := by
  refine wp_iload_n dX9_meetAll_2 rfl rfl ?_
  refine wp_aload_n dX9_meetAll_3 rfl rfl ?_
  refine wp_getI dX9_meetAll_4 fl_CustomValley_Valley_45 rfl rfl rfl ?_
  refine wp_icmp_ge (tgt := 36) dX9_meetAll_7 (by decide) (fun hc => ?_) (fun hc => ?_)
  · replace h := h.1 hc
    exact wp_ret dX9_meetAll_36 rfl h
  · replace h := h.2 hc
    refine wp_aload_n dX9_meetAll_10 rfl rfl ?_
    refine wp_getR dX9_meetAll_11 fl_CustomValley_Valley_18 rfl rfl ?_
    refine wp_iload_n dX9_meetAll_14 rfl rfl ?_
    refine wp_iconst dX9_meetAll_15 rfl ?_
    refine wp_aload_n dX9_meetAll_16 rfl rfl ?_
    refine wp_getI dX9_meetAll_17 fl_CustomValley_Valley_45 rfl rfl rfl ?_
    refine wp_ishl dX9_meetAll_20 ?_
    refine wp_iconst dX9_meetAll_21 rfl ?_
    have s3 := h.1
    replace h := h.2
    refine wp_isub dX9_meetAll_22 ?_ (h1 := s3.1) (h2 := s3.2)
    refine wp_iconst dX9_meetAll_23 rfl ?_
    refine wp_iload_n dX9_meetAll_24 rfl rfl ?_
    refine wp_ishl dX9_meetAll_25 ?_
    refine wp_iconst dX9_meetAll_26 rfl ?_
    refine wp_ixor dX9_meetAll_27 ?_
    refine wp_iand dX9_meetAll_28 ?_
    have s2 := h.1
    replace h := h.2
    refine wp_iastore dX9_meetAll_29 rfl rfl s2.1 s2.2 ?_
    have s1 := h.1
    replace h := h.2
    refine wp_iinc dX9_meetAll_30 rfl (by decide) rfl rfl ?_ (h1 := s1.1) (h2 := s1.2)
    refine wp_goto (tgt := 2) dX9_meetAll_33 (by decide) ?_
    exact h
theorem dX9_clear_0 : decode cX9_clear 0 = .ok (.aload_n 0, 1) := by decide +kernel
theorem dX9_clear_1 : decode cX9_clear 1 = .ok (.iconst 4, 1) := by decide +kernel
theorem dX9_clear_2 : decode cX9_clear 2 = .ok (.putfield 45, 3) := by decide +kernel
theorem dX9_clear_5 : decode cX9_clear 5 = .ok (.aload_n 0, 1) := by decide +kernel
theorem dX9_clear_6 : decode cX9_clear 6 = .ok (.iconst 2, 1) := by decide +kernel
theorem dX9_clear_7 : decode cX9_clear 7 = .ok (.putfield 49, 3) := by decide +kernel
theorem dX9_clear_10 : decode cX9_clear 10 = .ok (.aload_n 0, 1) := by decide +kernel
theorem dX9_clear_11 : decode cX9_clear 11 = .ok (.iconst 0, 1) := by decide +kernel
theorem dX9_clear_12 : decode cX9_clear 12 = .ok (.putfield 52, 3) := by decide +kernel
theorem dX9_clear_15 : decode cX9_clear 15 = .ok (.aload_n 0, 1) := by decide +kernel
theorem dX9_clear_16 : decode cX9_clear 16 = .ok (.iconst 0, 1) := by decide +kernel
theorem dX9_clear_17 : decode cX9_clear 17 = .ok (.putfield 55, 3) := by decide +kernel
theorem dX9_clear_20 : decode cX9_clear 20 = .ok (.aload_n 0, 1) := by decide +kernel
theorem dX9_clear_21 : decode cX9_clear 21 = .ok (.iconst 0, 1) := by decide +kernel
theorem dX9_clear_22 : decode cX9_clear 22 = .ok (.putfield 59, 3) := by decide +kernel
theorem dX9_clear_25 : decode cX9_clear 25 = .ok (.aload_n 0, 1) := by decide +kernel
theorem dX9_clear_26 : decode cX9_clear 26 = .ok (.getfield 9, 3) := by decide +kernel
theorem dX9_clear_29 : decode cX9_clear 29 = .ok (.iconst 0, 1) := by decide +kernel
theorem dX9_clear_30 : decode cX9_clear 30 = .ok (.invokestatic 62, 3) := by decide +kernel
theorem dX9_clear_33 : decode cX9_clear 33 = .ok (.iconst 0, 1) := by decide +kernel
theorem dX9_clear_34 : decode cX9_clear 34 = .ok (.istore_n 1, 1) := by decide +kernel
theorem dX9_clear_35 : decode cX9_clear 35 = .ok (.iload_n 1, 1) := by decide +kernel
theorem dX9_clear_36 : decode cX9_clear 36 = .ok (.iconst 4, 1) := by decide +kernel
theorem dX9_clear_37 : decode cX9_clear 37 = .ok (.if_icmp .ge 20, 3) := by decide +kernel
theorem dX9_clear_40 : decode cX9_clear 40 = .ok (.aload_n 0, 1) := by decide +kernel
theorem dX9_clear_41 : decode cX9_clear 41 = .ok (.getfield 9, 3) := by decide +kernel
theorem dX9_clear_44 : decode cX9_clear 44 = .ok (.iload_n 1, 1) := by decide +kernel
theorem dX9_clear_45 : decode cX9_clear 45 = .ok (.iconst 4, 1) := by decide +kernel
theorem dX9_clear_46 : decode cX9_clear 46 = .ok (.imul, 1) := by decide +kernel
theorem dX9_clear_47 : decode cX9_clear 47 = .ok (.iload_n 1, 1) := by decide +kernel
theorem dX9_clear_48 : decode cX9_clear 48 = .ok (.iadd, 1) := by decide +kernel
theorem dX9_clear_49 : decode cX9_clear 49 = .ok (.iconst 1, 1) := by decide +kernel
theorem dX9_clear_50 : decode cX9_clear 50 = .ok (.iastore, 1) := by decide +kernel
theorem dX9_clear_51 : decode cX9_clear 51 = .ok (.iinc 1 1, 3) := by decide +kernel
theorem dX9_clear_54 : decode cX9_clear 54 = .ok (.goto (-19), 3) := by decide +kernel
theorem dX9_clear_57 : decode cX9_clear 57 = .ok (.aload_n 0, 1) := by decide +kernel
theorem dX9_clear_58 : decode cX9_clear 58 = .ok (.getfield 15, 3) := by decide +kernel
theorem dX9_clear_61 : decode cX9_clear 61 = .ok (.iconst 1, 1) := by decide +kernel
theorem dX9_clear_62 : decode cX9_clear 62 = .ok (.invokestatic 62, 3) := by decide +kernel
theorem dX9_clear_65 : decode cX9_clear 65 = .ok (.aload_n 0, 1) := by decide +kernel
theorem dX9_clear_66 : decode cX9_clear 66 = .ok (.getfield 18, 3) := by decide +kernel
theorem dX9_clear_69 : decode cX9_clear 69 = .ok (.iconst 0, 1) := by decide +kernel
theorem dX9_clear_70 : decode cX9_clear 70 = .ok (.invokestatic 62, 3) := by decide +kernel
theorem dX9_clear_73 : decode cX9_clear 73 = .ok (.aload_n 0, 1) := by decide +kernel
theorem dX9_clear_74 : decode cX9_clear 74 = .ok (.getfield 21, 3) := by decide +kernel
theorem dX9_clear_77 : decode cX9_clear 77 = .ok (.iconst (-1), 1) := by decide +kernel
theorem dX9_clear_78 : decode cX9_clear 78 = .ok (.invokestatic 62, 3) := by decide +kernel
theorem dX9_clear_81 : decode cX9_clear 81 = .ok (.return_, 1) := by decide +kernel
theorem b_X9_clear_0 {i : Nat} {σ : St} {Q : Res → St → Prop} (h : WP mJ7_fill_53178 0 [vR 54 i, vI 0, vU, vU] [] (up (up (up (up (up σ 10 i 0 4) 10 i 1 2) 10 i 2 0) 10 i 3 0) 10 i 4 0) (CT mX9_clear 33 [vR 10 i, vU] [] Q)) : WP mX9_clear 0 [vR 10 i, vU] [] σ Q := by
  refine wp_aload_n dX9_clear_0 rfl rfl ?_
  refine wp_iconst dX9_clear_1 rfl ?_
  refine wp_putI dX9_clear_2 fp_CustomValley_Valley_45 rfl rfl rfl ?_
  refine wp_aload_n dX9_clear_5 rfl rfl ?_
  refine wp_iconst dX9_clear_6 rfl ?_
  refine wp_putI dX9_clear_7 fp_CustomValley_Valley_49 rfl rfl rfl ?_
  refine wp_aload_n dX9_clear_10 rfl rfl ?_
  refine wp_iconst dX9_clear_11 rfl ?_
  refine wp_putI dX9_clear_12 fp_CustomValley_Valley_52 rfl rfl rfl ?_
  refine wp_aload_n dX9_clear_15 rfl rfl ?_
  refine wp_iconst dX9_clear_16 rfl ?_
  refine wp_putZ dX9_clear_17 fp_CustomValley_Valley_55 rfl rfl rfl (by decide) ?_
  refine wp_aload_n dX9_clear_20 rfl rfl ?_
  refine wp_iconst dX9_clear_21 rfl ?_
  refine wp_putI dX9_clear_22 fp_CustomValley_Valley_59 rfl rfl rfl ?_
  refine wp_aload_n dX9_clear_25 rfl rfl ?_
  refine wp_getR dX9_clear_26 fl_CustomValley_Valley_9 rfl rfl ?_
  refine wp_iconst dX9_clear_29 rfl ?_
  refine wp_invS (N := mJ7_fill_53178) [vR 54 i, vI 0] dX9_clear_30 ml_CustomValley_Valley_62 mvJ7_fill_53178 rfl rfl rfl (Nat.le_of_ble_eq_true rfl) (Nat.le_of_ble_eq_true rfl) (by decide) (by decide) ?_
  exact h
theorem b_X9_clear_33 {i : Nat} {σ : St} {Q : Res → St → Prop} (h : WP mX9_clear 35 [vR 10 i, vI 0] [] σ Q) : WP mX9_clear 33 [vR 10 i, vU] [] σ Q := by
  refine wp_iconst dX9_clear_33 rfl ?_
  refine wp_istore_n dX9_clear_34 rfl (by decide) rfl rfl ?_
  exact h
theorem b_X9_clear_35 {i : Nat} {x1 : Int} {σ : St} {Q : Res → St → Prop} (h : ((4 ≤ x1) → (WP mJ7_fill_53178 0 [vR 55 i, vI 1, vU, vU] [] σ (CT mX9_clear 65 [vR 10 i, vU] [] Q))) ∧ ((x1 < 4) → ((in32 (x1 * 4)) ∧ ((in32 ((x1 * 4) + x1)) ∧ ((0 ≤ (x1 * 4) + x1 ∧ ((x1 * 4) + x1) < 16) ∧ ((in32 (x1 + 1)) ∧ (WP mX9_clear 35 [vR 10 i, vI (x1 + 1)] [] (up σ 54 i (((x1 * 4) + x1).toNat) 1) Q))))))) : WP mX9_clear 35 [vR 10 i, vI x1] [] σ Q := by
  refine wp_iload_n dX9_clear_35 rfl rfl ?_
  refine wp_iconst dX9_clear_36 rfl ?_
  refine wp_icmp_ge (tgt := 57) dX9_clear_37 (by decide) (fun hc => ?_) (fun hc => ?_)
  · replace h := h.1 hc
    refine wp_aload_n dX9_clear_57 rfl rfl ?_
    refine wp_getR dX9_clear_58 fl_CustomValley_Valley_15 rfl rfl ?_
    refine wp_iconst dX9_clear_61 rfl ?_
    refine wp_invS (N := mJ7_fill_53178) [vR 55 i, vI 1] dX9_clear_62 ml_CustomValley_Valley_62 mvJ7_fill_53178 rfl rfl rfl (Nat.le_of_ble_eq_true rfl) (Nat.le_of_ble_eq_true rfl) (by decide) (by decide) ?_
    exact WP.mono h (ct_drop (lle_c (Or.inl rfl) (lle_c (Or.inr rfl) lle_n)))
  · replace h := h.2 hc
    refine wp_aload_n dX9_clear_40 rfl rfl ?_
    refine wp_getR dX9_clear_41 fl_CustomValley_Valley_9 rfl rfl ?_
    refine wp_iload_n dX9_clear_44 rfl rfl ?_
    refine wp_iconst dX9_clear_45 rfl ?_
    have s4 := h.1
    replace h := h.2
    refine wp_imul dX9_clear_46 ?_ (h1 := s4.1) (h2 := s4.2)
    refine wp_iload_n dX9_clear_47 rfl rfl ?_
    have s3 := h.1
    replace h := h.2
    refine wp_iadd dX9_clear_48 ?_ (h1 := s3.1) (h2 := s3.2)
    refine wp_iconst dX9_clear_49 rfl ?_
    have s2 := h.1
    replace h := h.2
    refine wp_iastore dX9_clear_50 rfl rfl s2.1 s2.2 ?_
    have s1 := h.1
    replace h := h.2
    refine wp_iinc dX9_clear_51 rfl (by decide) rfl rfl ?_ (h1 := s1.1) (h2 := s1.2)
    refine wp_goto (tgt := 35) dX9_clear_54 (by decide) ?_
    exact h
theorem b_X9_clear_65 {i : Nat} {σ : St} {Q : Res → St → Prop} (h : WP mJ7_fill_53178 0 [vR 56 i, vI 0, vU, vU] [] σ (CT mX9_clear 73 [vR 10 i, vU] [] Q)) : WP mX9_clear 65 [vR 10 i, vU] [] σ Q := by
  refine wp_aload_n dX9_clear_65 rfl rfl ?_
  refine wp_getR dX9_clear_66 fl_CustomValley_Valley_18 rfl rfl ?_
  refine wp_iconst dX9_clear_69 rfl ?_
  refine wp_invS (N := mJ7_fill_53178) [vR 56 i, vI 0] dX9_clear_70 ml_CustomValley_Valley_62 mvJ7_fill_53178 rfl rfl rfl (Nat.le_of_ble_eq_true rfl) (Nat.le_of_ble_eq_true rfl) (by decide) (by decide) ?_
  exact h
theorem b_X9_clear_73 {i : Nat} {σ : St} {Q : Res → St → Prop} (h : WP mJ7_fill_53178 0 [vR 57 i, vI (-1), vU, vU] [] σ (CT mX9_clear 81 [vU, vU] [] Q)) : WP mX9_clear 73 [vR 10 i, vU] [] σ Q := by
  refine wp_aload_n dX9_clear_73 rfl rfl ?_
  refine wp_getR dX9_clear_74 fl_CustomValley_Valley_21 rfl rfl ?_
  refine wp_iconst dX9_clear_77 rfl ?_
  refine wp_invS (N := mJ7_fill_53178) [vR 57 i, vI (-1)] dX9_clear_78 ml_CustomValley_Valley_62 mvJ7_fill_53178 rfl rfl rfl (Nat.le_of_ble_eq_true rfl) (Nat.le_of_ble_eq_true rfl) (by decide) (by decide) ?_
  exact WP.mono h (ct_drop (lle_c (Or.inr rfl) (lle_c (Or.inl rfl) lle_n)))
theorem b_X9_clear_81  {σ : St} {Q : Res → St → Prop} (h : Q (.inl none) σ) : WP mX9_clear 81 [vU, vU] [] σ Q := by
  exact wp_ret dX9_clear_81 rfl h
theorem dX9_isState_0 : decode cX9_isState 0 = .ok (.iload_n 1, 1) := by decide +kernel
theorem dX9_isState_1 : decode cX9_isState 1 = .ok (.ifCond .lt 11, 3) := by decide +kernel
theorem dX9_isState_4 : decode cX9_isState 4 = .ok (.iload_n 1, 1) := by decide +kernel
theorem dX9_isState_5 : decode cX9_isState 5 = .ok (.aload_n 0, 1) := by decide +kernel
theorem dX9_isState_6 : decode cX9_isState 6 = .ok (.getfield 99, 3) := by decide +kernel
theorem dX9_isState_9 : decode cX9_isState 9 = .ok (.if_icmp .lt 5, 3) := by decide +kernel
theorem dX9_isState_12 : decode cX9_isState 12 = .ok (.iconst 0, 1) := by decide +kernel
theorem dX9_isState_13 : decode cX9_isState 13 = .ok (.ireturn, 1) := by decide +kernel
theorem dX9_isState_14 : decode cX9_isState 14 = .ok (.iconst 0, 1) := by decide +kernel
theorem dX9_isState_15 : decode cX9_isState 15 = .ok (.istore_n 2, 1) := by decide +kernel
theorem dX9_isState_16 : decode cX9_isState 16 = .ok (.iload_n 2, 1) := by decide +kernel
theorem dX9_isState_17 : decode cX9_isState 17 = .ok (.aload_n 0, 1) := by decide +kernel
theorem dX9_isState_18 : decode cX9_isState 18 = .ok (.getfield 45, 3) := by decide +kernel
theorem dX9_isState_21 : decode cX9_isState 21 = .ok (.if_icmp .ge 36, 3) := by decide +kernel
theorem dX9_isState_24 : decode cX9_isState 24 = .ok (.aload_n 0, 1) := by decide +kernel
theorem dX9_isState_25 : decode cX9_isState 25 = .ok (.getfield 21, 3) := by decide +kernel
theorem dX9_isState_28 : decode cX9_isState 28 = .ok (.iload_n 2, 1) := by decide +kernel
theorem dX9_isState_29 : decode cX9_isState 29 = .ok (.iaload, 1) := by decide +kernel
theorem dX9_isState_30 : decode cX9_isState 30 = .ok (.iconst (-1), 1) := by decide +kernel
theorem dX9_isState_31 : decode cX9_isState 31 = .ok (.if_icmp .eq 20, 3) := by decide +kernel
theorem dX9_isState_34 : decode cX9_isState 34 = .ok (.aload_n 0, 1) := by decide +kernel
theorem dX9_isState_35 : decode cX9_isState 35 = .ok (.getfield 21, 3) := by decide +kernel
theorem dX9_isState_38 : decode cX9_isState 38 = .ok (.iload_n 2, 1) := by decide +kernel
theorem dX9_isState_39 : decode cX9_isState 39 = .ok (.iaload, 1) := by decide +kernel
theorem dX9_isState_40 : decode cX9_isState 40 = .ok (.aload_n 0, 1) := by decide +kernel
theorem dX9_isState_41 : decode cX9_isState 41 = .ok (.iload_n 1, 1) := by decide +kernel
theorem dX9_isState_42 : decode cX9_isState 42 = .ok (.iload_n 2, 1) := by decide +kernel
theorem dX9_isState_43 : decode cX9_isState 43 = .ok (.invokevirtual 109, 3) := by decide +kernel
theorem dX9_isState_46 : decode cX9_isState 46 = .ok (.if_icmp .eq 5, 3) := by decide +kernel
theorem dX9_isState_49 : decode cX9_isState 49 = .ok (.iconst 0, 1) := by decide +kernel
theorem dX9_isState_50 : decode cX9_isState 50 = .ok (.ireturn, 1) := by decide +kernel
theorem dX9_isState_51 : decode cX9_isState 51 = .ok (.iinc 2 1, 3) := by decide +kernel
theorem dX9_isState_54 : decode cX9_isState 54 = .ok (.goto (-38), 3) := by decide +kernel
theorem dX9_isState_57 : decode cX9_isState 57 = .ok (.iconst 1, 1) := by decide +kernel
theorem dX9_isState_58 : decode cX9_isState 58 = .ok (.ireturn, 1) := by decide +kernel
theorem b_X9_isState_0 {i : Nat} {x1 : Int} {σ : St} {Q : Res → St → Prop} (h : ((x1 < 0) → (Q (.inl (some (vI 0))) σ)) ∧ ((0 ≤ x1) → (((x1 < (σ 10 i 11)) → (WP mX9_isState 16 [vR 10 i, vI x1, vI 0] [] σ Q)) ∧ (((σ 10 i 11) ≤ x1) → (Q (.inl (some (vI 0))) σ))))) : WP mX9_isState 0 [vR 10 i, vI x1, vU] [] σ Q := by
  refine wp_iload_n dX9_isState_0 rfl rfl ?_
  refine wp_if_lt (tgt := 12) dX9_isState_1 (by decide) (fun hc => ?_) (fun hc => ?_)
  · replace h := h.1 hc
    refine wp_iconst dX9_isState_12 rfl ?_
    exact wp_zret dX9_isState_13 rfl h (by decide)
  · replace h := h.2 hc
    refine wp_iload_n dX9_isState_4 rfl rfl ?_
    refine wp_aload_n dX9_isState_5 rfl rfl ?_
    refine wp_getI dX9_isState_6 fl_CustomValley_Valley_99 rfl rfl rfl ?_
    refine wp_icmp_lt (tgt := 14) dX9_isState_9 (by decide) (fun hc => ?_) (fun hc => ?_)
    · replace h := h.1 hc
      refine wp_iconst dX9_isState_14 rfl ?_
      refine wp_istore_n dX9_isState_15 rfl (by decide) rfl rfl ?_
      exact h
    · replace h := h.2 hc
      refine wp_iconst dX9_isState_12 rfl ?_
      exact wp_zret dX9_isState_13 rfl h (by decide)
theorem b_X9_isState_16 {i : Nat} {x1 : Int} {x2 : Int} {σ : St} {Q : Res → St → Prop} (h : (((σ 10 i 0) ≤ x2) → (Q (.inl (some (vI 1))) σ)) ∧ ((x2 < (σ 10 i 0)) → ((0 ≤ x2 ∧ x2 < 10) ∧ ((((σ 57 i x2.toNat) = (-1)) → ((in32 (x2 + 1)) ∧ (WP mX9_isState 16 [vR 10 i, vI x1, vI (x2 + 1)] [] σ Q))) ∧ (((σ 57 i x2.toNat) ≠ (-1)) → ((0 ≤ x2 ∧ x2 < 10) ∧ ((0 ≤ x2 ∧ x2 < 11 ∧ 0 ≤ x1 ∧ 0 < σ 60 i x2.toNat ∧ 0 ≤ x1 / (σ 60 i x2.toNat) ∧ 0 < σ 10 i 1) ∧ ((((σ 57 i x2.toNat) = ((x1 / (σ 60 i x2.toNat)) % (σ 10 i 1))) → ((in32 (x2 + 1)) ∧ (WP mX9_isState 16 [vR 10 i, vI x1, vI (x2 + 1)] [] σ Q))) ∧ (((σ 57 i x2.toNat) ≠ ((x1 / (σ 60 i x2.toNat)) % (σ 10 i 1))) → (Q (.inl (some (vI 0))) σ)))))))))) : WP mX9_isState 16 [vR 10 i, vI x1, vI x2] [] σ Q := by
  refine wp_iload_n dX9_isState_16 rfl rfl ?_
  refine wp_aload_n dX9_isState_17 rfl rfl ?_
  refine wp_getI dX9_isState_18 fl_CustomValley_Valley_45 rfl rfl rfl ?_
  refine wp_icmp_ge (tgt := 57) dX9_isState_21 (by decide) (fun hc => ?_) (fun hc => ?_)
  · replace h := h.1 hc
    refine wp_iconst dX9_isState_57 rfl ?_
    exact wp_zret dX9_isState_58 rfl h (by decide)
  · replace h := h.2 hc
    refine wp_aload_n dX9_isState_24 rfl rfl ?_
    refine wp_getR dX9_isState_25 fl_CustomValley_Valley_21 rfl rfl ?_
    refine wp_iload_n dX9_isState_28 rfl rfl ?_
    have s5 := h.1
    replace h := h.2
    refine wp_iaload dX9_isState_29 rfl rfl s5.1 s5.2 ?_
    refine wp_iconst dX9_isState_30 rfl ?_
    refine wp_icmp_eq (tgt := 51) dX9_isState_31 (by decide) (fun hc => ?_) (fun hc => ?_)
    · replace h := h.1 hc
      have s1 := h.1
      replace h := h.2
      refine wp_iinc dX9_isState_51 rfl (by decide) rfl rfl ?_ (h1 := s1.1) (h2 := s1.2)
      refine wp_goto (tgt := 16) dX9_isState_54 (by decide) ?_
      exact h
    · replace h := h.2 hc
      refine wp_aload_n dX9_isState_34 rfl rfl ?_
      refine wp_getR dX9_isState_35 fl_CustomValley_Valley_21 rfl rfl ?_
      refine wp_iload_n dX9_isState_38 rfl rfl ?_
      have s4 := h.1
      replace h := h.2
      refine wp_iaload dX9_isState_39 rfl rfl s4.1 s4.2 ?_
      refine wp_aload_n dX9_isState_40 rfl rfl ?_
      refine wp_iload_n dX9_isState_41 rfl rfl ?_
      refine wp_iload_n dX9_isState_42 rfl rfl ?_
      have s3 := h.1
      replace h := h.2
      refine wp_invV (N := mX9_habitIn) [vI x1, vI x2] dX9_isState_43 ml_CustomValley_Valley_109 mvX9_habitIn rfl rfl rfl rfl rfl (Nat.le_of_ble_eq_true rfl) (Nat.le_of_ble_eq_true rfl) (by decide) (by decide) (by decide) ?_
      refine pb_X9_habitIn s3 ?_
      show WP mX9_isState 46 [vR 10 i, vI x1, vI x2] [vI ((x1 / (σ 60 i x2.toNat)) % (σ 10 i 1)), vI (σ 57 i x2.toNat)] σ Q
      refine wp_icmp_eq (tgt := 51) dX9_isState_46 (by decide) (fun hc => ?_) (fun hc => ?_)
      · replace h := h.1 hc
        have s2 := h.1
        replace h := h.2
        refine wp_iinc dX9_isState_51 rfl (by decide) rfl rfl ?_ (h1 := s2.1) (h2 := s2.2)
        refine wp_goto (tgt := 16) dX9_isState_54 (by decide) ?_
        exact h
      · replace h := h.2 hc
        refine wp_iconst dX9_isState_49 rfl ?_
        exact wp_zret dX9_isState_50 rfl h (by decide)
theorem dX9_worthIn_0 : decode cX9_worthIn 0 = .ok (.iconst 0, 1) := by decide +kernel
theorem dX9_worthIn_1 : decode cX9_worthIn 1 = .ok (.istore_n 3, 1) := by decide +kernel
theorem dX9_worthIn_2 : decode cX9_worthIn 2 = .ok (.aload_n 0, 1) := by decide +kernel
theorem dX9_worthIn_3 : decode cX9_worthIn 3 = .ok (.iload_n 1, 1) := by decide +kernel
theorem dX9_worthIn_4 : decode cX9_worthIn 4 = .ok (.iload_n 2, 1) := by decide +kernel
theorem dX9_worthIn_5 : decode cX9_worthIn 5 = .ok (.invokevirtual 109, 3) := by decide +kernel
theorem dX9_worthIn_8 : decode cX9_worthIn 8 = .ok (.istore 4, 2) := by decide +kernel
theorem dX9_worthIn_10 : decode cX9_worthIn 10 = .ok (.iconst 0, 1) := by decide +kernel
theorem dX9_worthIn_11 : decode cX9_worthIn 11 = .ok (.istore 5, 2) := by decide +kernel
theorem dX9_worthIn_13 : decode cX9_worthIn 13 = .ok (.iload 5, 2) := by decide +kernel
theorem dX9_worthIn_15 : decode cX9_worthIn 15 = .ok (.aload_n 0, 1) := by decide +kernel
theorem dX9_worthIn_16 : decode cX9_worthIn 16 = .ok (.getfield 45, 3) := by decide +kernel
theorem dX9_worthIn_19 : decode cX9_worthIn 19 = .ok (.if_icmp .ge 43, 3) := by decide +kernel
theorem dX9_worthIn_22 : decode cX9_worthIn 22 = .ok (.aload_n 0, 1) := by decide +kernel
theorem dX9_worthIn_23 : decode cX9_worthIn 23 = .ok (.getfield 18, 3) := by decide +kernel
theorem dX9_worthIn_26 : decode cX9_worthIn 26 = .ok (.iload_n 2, 1) := by decide +kernel
theorem dX9_worthIn_27 : decode cX9_worthIn 27 = .ok (.iaload, 1) := by decide +kernel
theorem dX9_worthIn_28 : decode cX9_worthIn 28 = .ok (.iload 5, 2) := by decide +kernel
theorem dX9_worthIn_30 : decode cX9_worthIn 30 = .ok (.ishr, 1) := by decide +kernel
theorem dX9_worthIn_31 : decode cX9_worthIn 31 = .ok (.iconst 1, 1) := by decide +kernel
theorem dX9_worthIn_32 : decode cX9_worthIn 32 = .ok (.iand, 1) := by decide +kernel
theorem dX9_worthIn_33 : decode cX9_worthIn 33 = .ok (.ifCond .eq 23, 3) := by decide +kernel
theorem dX9_worthIn_36 : decode cX9_worthIn 36 = .ok (.iload_n 3, 1) := by decide +kernel
theorem dX9_worthIn_37 : decode cX9_worthIn 37 = .ok (.aload_n 0, 1) := by decide +kernel
theorem dX9_worthIn_38 : decode cX9_worthIn 38 = .ok (.getfield 9, 3) := by decide +kernel
theorem dX9_worthIn_41 : decode cX9_worthIn 41 = .ok (.iload 4, 2) := by decide +kernel
theorem dX9_worthIn_43 : decode cX9_worthIn 43 = .ok (.iconst 4, 1) := by decide +kernel
theorem dX9_worthIn_44 : decode cX9_worthIn 44 = .ok (.imul, 1) := by decide +kernel
theorem dX9_worthIn_45 : decode cX9_worthIn 45 = .ok (.aload_n 0, 1) := by decide +kernel
theorem dX9_worthIn_46 : decode cX9_worthIn 46 = .ok (.iload_n 1, 1) := by decide +kernel
theorem dX9_worthIn_47 : decode cX9_worthIn 47 = .ok (.iload 5, 2) := by decide +kernel
theorem dX9_worthIn_49 : decode cX9_worthIn 49 = .ok (.invokevirtual 109, 3) := by decide +kernel
theorem dX9_worthIn_52 : decode cX9_worthIn 52 = .ok (.iadd, 1) := by decide +kernel
theorem dX9_worthIn_53 : decode cX9_worthIn 53 = .ok (.iaload, 1) := by decide +kernel
theorem dX9_worthIn_54 : decode cX9_worthIn 54 = .ok (.iadd, 1) := by decide +kernel
theorem dX9_worthIn_55 : decode cX9_worthIn 55 = .ok (.istore_n 3, 1) := by decide +kernel
theorem dX9_worthIn_56 : decode cX9_worthIn 56 = .ok (.iinc 5 1, 3) := by decide +kernel
theorem dX9_worthIn_59 : decode cX9_worthIn 59 = .ok (.goto (-46), 3) := by decide +kernel
theorem dX9_worthIn_62 : decode cX9_worthIn 62 = .ok (.iload_n 3, 1) := by decide +kernel
theorem dX9_worthIn_63 : decode cX9_worthIn 63 = .ok (.ireturn, 1) := by decide +kernel
theorem b_X9_worthIn_0 {i : Nat} {x1 : Int} {x2 : Int} {σ : St} {Q : Res → St → Prop} (h : (0 ≤ x2 ∧ x2 < 11 ∧ 0 ≤ x1 ∧ 0 < σ 60 i x2.toNat ∧ 0 ≤ x1 / (σ 60 i x2.toNat) ∧ 0 < σ 10 i 1) ∧ (WP mX9_worthIn 13 [vR 10 i, vI x1, vI x2, vI 0, vI ((x1 / (σ 60 i x2.toNat)) % (σ 10 i 1)), vI 0] [] σ Q)) : WP mX9_worthIn 0 [vR 10 i, vI x1, vI x2, vU, vU, vU] [] σ Q := by
  refine wp_iconst dX9_worthIn_0 rfl ?_
  refine wp_istore_n dX9_worthIn_1 rfl (by decide) rfl rfl ?_
  refine wp_aload_n dX9_worthIn_2 rfl rfl ?_
  refine wp_iload_n dX9_worthIn_3 rfl rfl ?_
  refine wp_iload_n dX9_worthIn_4 rfl rfl ?_
  have s1 := h.1
  replace h := h.2
  refine wp_invV (N := mX9_habitIn) [vI x1, vI x2] dX9_worthIn_5 ml_CustomValley_Valley_109 mvX9_habitIn rfl rfl rfl rfl rfl (Nat.le_of_ble_eq_true rfl) (Nat.le_of_ble_eq_true rfl) (by decide) (by decide) (by decide) ?_
  refine pb_X9_habitIn s1 ?_
  show WP mX9_worthIn 8 [vR 10 i, vI x1, vI x2, vI 0, vU, vU] [vI ((x1 / (σ 60 i x2.toNat)) % (σ 10 i 1))] σ Q
  refine wp_istore dX9_worthIn_8 (by decide) rfl rfl ?_
  refine wp_iconst dX9_worthIn_10 rfl ?_
  refine wp_istore dX9_worthIn_11 (by decide) rfl rfl ?_
  exact h
theorem b_X9_worthIn_13 {i : Nat} {x1 : Int} {x2 : Int} {x3 : Int} {x4 : Int} {x5 : Int} {σ : St} {Q : Res → St → Prop} (h : (((σ 10 i 0) ≤ x5) → (Q (.inl (some (vI x3))) σ)) ∧ ((x5 < (σ 10 i 0)) → ((0 ≤ x2 ∧ x2 < 10) ∧ ((((band (shr (σ 56 i x2.toNat) x5) 1) = 0) → ((in32 (x5 + 1)) ∧ (WP mX9_worthIn 13 [vR 10 i, vI x1, vI x2, vI x3, vI x4, vI (x5 + 1)] [] σ Q))) ∧ (((band (shr (σ 56 i x2.toNat) x5) 1) ≠ 0) → ((in32 (x4 * 4)) ∧ ((0 ≤ x5 ∧ x5 < 11 ∧ 0 ≤ x1 ∧ 0 < σ 60 i x5.toNat ∧ 0 ≤ x1 / (σ 60 i x5.toNat) ∧ 0 < σ 10 i 1) ∧ ((in32 ((x4 * 4) + ((x1 / (σ 60 i x5.toNat)) % (σ 10 i 1)))) ∧ ((0 ≤ (x4 * 4) + ((x1 / (σ 60 i x5.toNat)) % (σ 10 i 1)) ∧ ((x4 * 4) + ((x1 / (σ 60 i x5.toNat)) % (σ 10 i 1))) < 16) ∧ ((in32 (x3 + (σ 54 i (((x4 * 4) + ((x1 / (σ 60 i x5.toNat)) % (σ 10 i 1))).toNat)))) ∧ ((in32 (x5 + 1)) ∧ (WP mX9_worthIn 13 [vR 10 i, vI x1, vI x2, vI (x3 + (σ 54 i (((x4 * 4) + ((x1 / (σ 60 i x5.toNat)) % (σ 10 i 1))).toNat))), vI x4, vI (x5 + 1)] [] σ Q)))))))))))) : WP mX9_worthIn 13 [vR 10 i, vI x1, vI x2, vI x3, vI x4, vI x5] [] σ Q := by
  refine wp_iload dX9_worthIn_13 rfl ?_
  refine wp_aload_n dX9_worthIn_15 rfl rfl ?_
  refine wp_getI dX9_worthIn_16 fl_CustomValley_Valley_45 rfl rfl rfl ?_
  refine wp_icmp_ge (tgt := 62) dX9_worthIn_19 (by decide) (fun hc => ?_) (fun hc => ?_)
  · replace h := h.1 hc
    refine wp_iload_n dX9_worthIn_62 rfl rfl ?_
    exact wp_iret dX9_worthIn_63 rfl h
  · replace h := h.2 hc
    refine wp_aload_n dX9_worthIn_22 rfl rfl ?_
    refine wp_getR dX9_worthIn_23 fl_CustomValley_Valley_18 rfl rfl ?_
    refine wp_iload_n dX9_worthIn_26 rfl rfl ?_
    have s8 := h.1
    replace h := h.2
    refine wp_iaload dX9_worthIn_27 rfl rfl s8.1 s8.2 ?_
    refine wp_iload dX9_worthIn_28 rfl ?_
    refine wp_ishr dX9_worthIn_30 ?_
    refine wp_iconst dX9_worthIn_31 rfl ?_
    refine wp_iand dX9_worthIn_32 ?_
    refine wp_if_eq (tgt := 56) dX9_worthIn_33 (by decide) (fun hc => ?_) (fun hc => ?_)
    · replace h := h.1 hc
      have s1 := h.1
      replace h := h.2
      refine wp_iinc dX9_worthIn_56 rfl (by decide) rfl rfl ?_ (h1 := s1.1) (h2 := s1.2)
      refine wp_goto (tgt := 13) dX9_worthIn_59 (by decide) ?_
      exact h
    · replace h := h.2 hc
      refine wp_iload_n dX9_worthIn_36 rfl rfl ?_
      refine wp_aload_n dX9_worthIn_37 rfl rfl ?_
      refine wp_getR dX9_worthIn_38 fl_CustomValley_Valley_9 rfl rfl ?_
      refine wp_iload dX9_worthIn_41 rfl ?_
      refine wp_iconst dX9_worthIn_43 rfl ?_
      have s7 := h.1
      replace h := h.2
      refine wp_imul dX9_worthIn_44 ?_ (h1 := s7.1) (h2 := s7.2)
      refine wp_aload_n dX9_worthIn_45 rfl rfl ?_
      refine wp_iload_n dX9_worthIn_46 rfl rfl ?_
      refine wp_iload dX9_worthIn_47 rfl ?_
      have s6 := h.1
      replace h := h.2
      refine wp_invV (N := mX9_habitIn) [vI x1, vI x5] dX9_worthIn_49 ml_CustomValley_Valley_109 mvX9_habitIn rfl rfl rfl rfl rfl (Nat.le_of_ble_eq_true rfl) (Nat.le_of_ble_eq_true rfl) (by decide) (by decide) (by decide) ?_
      refine pb_X9_habitIn s6 ?_
      show WP mX9_worthIn 52 [vR 10 i, vI x1, vI x2, vI x3, vI x4, vI x5] [vI ((x1 / (σ 60 i x5.toNat)) % (σ 10 i 1)), vI (x4 * 4), vR 54 i, vI x3] σ Q
      have s5 := h.1
      replace h := h.2
      refine wp_iadd dX9_worthIn_52 ?_ (h1 := s5.1) (h2 := s5.2)
      have s4 := h.1
      replace h := h.2
      refine wp_iaload dX9_worthIn_53 rfl rfl s4.1 s4.2 ?_
      have s3 := h.1
      replace h := h.2
      refine wp_iadd dX9_worthIn_54 ?_ (h1 := s3.1) (h2 := s3.2)
      refine wp_istore_n dX9_worthIn_55 rfl (by decide) rfl rfl ?_
      have s2 := h.1
      replace h := h.2
      refine wp_iinc dX9_worthIn_56 rfl (by decide) rfl rfl ?_ (h1 := s2.1) (h2 := s2.2)
      refine wp_goto (tgt := 13) dX9_worthIn_59 (by decide) ?_
      exact h
theorem dX9_allWith_0 : decode cX9_allWith 0 = .ok (.iload_n 1, 1) := by decide +kernel
theorem dX9_allWith_1 : decode cX9_allWith 1 = .ok (.istore 4, 2) := by decide +kernel
theorem dX9_allWith_3 : decode cX9_allWith 3 = .ok (.iconst 0, 1) := by decide +kernel
theorem dX9_allWith_4 : decode cX9_allWith 4 = .ok (.istore 5, 2) := by decide +kernel
theorem dX9_allWith_6 : decode cX9_allWith 6 = .ok (.iload 5, 2) := by decide +kernel
theorem dX9_allWith_8 : decode cX9_allWith 8 = .ok (.aload_n 0, 1) := by decide +kernel
theorem dX9_allWith_9 : decode cX9_allWith 9 = .ok (.getfield 45, 3) := by decide +kernel
theorem dX9_allWith_12 : decode cX9_allWith 12 = .ok (.if_icmp .ge 29, 3) := by decide +kernel
theorem dX9_allWith_15 : decode cX9_allWith 15 = .ok (.iload_n 2, 1) := by decide +kernel
theorem dX9_allWith_16 : decode cX9_allWith 16 = .ok (.iload 5, 2) := by decide +kernel
theorem dX9_allWith_18 : decode cX9_allWith 18 = .ok (.ishr, 1) := by decide +kernel
theorem dX9_allWith_19 : decode cX9_allWith 19 = .ok (.iconst 1, 1) := by decide +kernel
theorem dX9_allWith_20 : decode cX9_allWith 20 = .ok (.iand, 1) := by decide +kernel
theorem dX9_allWith_21 : decode cX9_allWith 21 = .ok (.ifCond .eq 14, 3) := by decide +kernel
theorem dX9_allWith_24 : decode cX9_allWith 24 = .ok (.aload_n 0, 1) := by decide +kernel
theorem dX9_allWith_25 : decode cX9_allWith 25 = .ok (.iload 4, 2) := by decide +kernel
theorem dX9_allWith_27 : decode cX9_allWith 27 = .ok (.iload 5, 2) := by decide +kernel
theorem dX9_allWith_29 : decode cX9_allWith 29 = .ok (.iload_n 3, 1) := by decide +kernel
theorem dX9_allWith_30 : decode cX9_allWith 30 = .ok (.invokevirtual 112, 3) := by decide +kernel
theorem dX9_allWith_33 : decode cX9_allWith 33 = .ok (.istore 4, 2) := by decide +kernel
theorem dX9_allWith_35 : decode cX9_allWith 35 = .ok (.iinc 5 1, 3) := by decide +kernel
theorem dX9_allWith_38 : decode cX9_allWith 38 = .ok (.goto (-32), 3) := by decide +kernel
theorem dX9_allWith_41 : decode cX9_allWith 41 = .ok (.iload 4, 2) := by decide +kernel
theorem dX9_allWith_43 : decode cX9_allWith 43 = .ok (.ireturn, 1) := by decide +kernel
theorem b_X9_allWith_0 {i : Nat} {x1 : Int} {x2 : Int} {x3 : Int} {σ : St} {Q : Res → St → Prop} (h : WP mX9_allWith 6 [vR 10 i, vU, vI x2, vI x3, vI x1, vI 0] [] σ Q) : WP mX9_allWith 0 [vR 10 i, vI x1, vI x2, vI x3, vU, vU] [] σ Q := by
  refine wp_iload_n dX9_allWith_0 rfl rfl ?_
  refine wp_istore dX9_allWith_1 (by decide) rfl rfl ?_
  refine wp_iconst dX9_allWith_3 rfl ?_
  refine wp_istore dX9_allWith_4 (by decide) rfl rfl ?_
  exact wp_drop (als' := [vR 10 i, vU, vI x2, vI x3, vI x1, vI 0]) (lle_c (Or.inl rfl) (lle_c (Or.inr rfl) (lle_c (Or.inl rfl) (lle_c (Or.inl rfl) (lle_c (Or.inl rfl) (lle_c (Or.inl rfl) lle_n)))))) h
theorem b_X9_allWith_6 {i : Nat} {x2 : Int} {x3 : Int} {x4 : Int} {x5 : Int} {σ : St} {Q : Res → St → Prop} (h : (((σ 10 i 0) ≤ x5) → (Q (.inl (some (vI x4))) σ)) ∧ ((x5 < (σ 10 i 0)) → ((((band (shr x2 x5) 1) = 0) → ((in32 (x5 + 1)) ∧ (WP mX9_allWith 6 [vR 10 i, vU, vI x2, vI x3, vI x4, vI (x5 + 1)] [] σ Q))) ∧ (((band (shr x2 x5) 1) ≠ 0) → ((0 ≤ x5 ∧ x5 < 11 ∧ 0 ≤ x4 ∧ 0 < σ 60 i x5.toNat ∧ 0 ≤ x4 / (σ 60 i x5.toNat) ∧ 0 < σ 10 i 1 ∧ in32 (x3 - ((x4 / (σ 60 i x5.toNat)) % (σ 10 i 1))) ∧ 0 ≤ x5 ∧ x5 < 11 ∧ in32 ((x3 - ((x4 / (σ 60 i x5.toNat)) % (σ 10 i 1))) * (σ 60 i x5.toNat)) ∧ in32 (x4 + ((x3 - ((x4 / (σ 60 i x5.toNat)) % (σ 10 i 1))) * (σ 60 i x5.toNat)))) ∧ ((in32 (x5 + 1)) ∧ (WP mX9_allWith 6 [vR 10 i, vU, vI x2, vI x3, vI (x4 + ((x3 - ((x4 / (σ 60 i x5.toNat)) % (σ 10 i 1))) * (σ 60 i x5.toNat))), vI (x5 + 1)] [] σ Q))))))) : WP mX9_allWith 6 [vR 10 i, vU, vI x2, vI x3, vI x4, vI x5] [] σ Q := by
  refine wp_iload dX9_allWith_6 rfl ?_
  refine wp_aload_n dX9_allWith_8 rfl rfl ?_
  refine wp_getI dX9_allWith_9 fl_CustomValley_Valley_45 rfl rfl rfl ?_
  refine wp_icmp_ge (tgt := 41) dX9_allWith_12 (by decide) (fun hc => ?_) (fun hc => ?_)
  · replace h := h.1 hc
    refine wp_iload dX9_allWith_41 rfl ?_
    exact wp_iret dX9_allWith_43 rfl h
  · replace h := h.2 hc
    refine wp_iload_n dX9_allWith_15 rfl rfl ?_
    refine wp_iload dX9_allWith_16 rfl ?_
    refine wp_ishr dX9_allWith_18 ?_
    refine wp_iconst dX9_allWith_19 rfl ?_
    refine wp_iand dX9_allWith_20 ?_
    refine wp_if_eq (tgt := 35) dX9_allWith_21 (by decide) (fun hc => ?_) (fun hc => ?_)
    · replace h := h.1 hc
      have s1 := h.1
      replace h := h.2
      refine wp_iinc dX9_allWith_35 rfl (by decide) rfl rfl ?_ (h1 := s1.1) (h2 := s1.2)
      refine wp_goto (tgt := 6) dX9_allWith_38 (by decide) ?_
      exact h
    · replace h := h.2 hc
      refine wp_aload_n dX9_allWith_24 rfl rfl ?_
      refine wp_iload dX9_allWith_25 rfl ?_
      refine wp_iload dX9_allWith_27 rfl ?_
      refine wp_iload_n dX9_allWith_29 rfl rfl ?_
      have s3 := h.1
      replace h := h.2
      refine wp_invV (N := mX9_with) [vI x4, vI x5, vI x3] dX9_allWith_30 ml_CustomValley_Valley_112 mvX9_with rfl rfl rfl rfl rfl (Nat.le_of_ble_eq_true rfl) (Nat.le_of_ble_eq_true rfl) (by decide) (by decide) (by decide) ?_
      refine pb_X9_with s3 ?_
      show WP mX9_allWith 33 [vR 10 i, vU, vI x2, vI x3, vI x4, vI x5] [vI (x4 + ((x3 - ((x4 / (σ 60 i x5.toNat)) % (σ 10 i 1))) * (σ 60 i x5.toNat)))] σ Q
      refine wp_istore dX9_allWith_33 (by decide) rfl rfl ?_
      have s2 := h.1
      replace h := h.2
      refine wp_iinc dX9_allWith_35 rfl (by decide) rfl rfl ?_ (h1 := s2.1) (h2 := s2.2)
      refine wp_goto (tgt := 6) dX9_allWith_38 (by decide) ?_
      exact h
theorem dX9_settle_0 : decode cX9_settle 0 = .ok (.aload_n 0, 1) := by decide +kernel
theorem dX9_settle_1 : decode cX9_settle 1 = .ok (.iconst 0, 1) := by decide +kernel
theorem dX9_settle_2 : decode cX9_settle 2 = .ok (.putfield 74, 3) := by decide +kernel
theorem dX9_settle_5 : decode cX9_settle 5 = .ok (.aload_n 0, 1) := by decide +kernel
theorem dX9_settle_6 : decode cX9_settle 6 = .ok (.iconst 0, 1) := by decide +kernel
theorem dX9_settle_7 : decode cX9_settle 7 = .ok (.putfield 77, 3) := by decide +kernel
theorem dX9_settle_10 : decode cX9_settle 10 = .ok (.aload_n 0, 1) := by decide +kernel
theorem dX9_settle_11 : decode cX9_settle 11 = .ok (.getfield 30, 3) := by decide +kernel
theorem dX9_settle_14 : decode cX9_settle 14 = .ok (.iconst 0, 1) := by decide +kernel
theorem dX9_settle_15 : decode cX9_settle 15 = .ok (.iconst 1, 1) := by decide +kernel
theorem dX9_settle_16 : decode cX9_settle 16 = .ok (.iastore, 1) := by decide +kernel
theorem dX9_settle_17 : decode cX9_settle 17 = .ok (.iconst 0, 1) := by decide +kernel
theorem dX9_settle_18 : decode cX9_settle 18 = .ok (.istore_n 1, 1) := by decide +kernel
theorem dX9_settle_19 : decode cX9_settle 19 = .ok (.iload_n 1, 1) := by decide +kernel
theorem dX9_settle_20 : decode cX9_settle 20 = .ok (.aload_n 0, 1) := by decide +kernel
theorem dX9_settle_21 : decode cX9_settle 21 = .ok (.getfield 45, 3) := by decide +kernel
theorem dX9_settle_24 : decode cX9_settle 24 = .ok (.if_icmp .ge 55, 3) := by decide +kernel
theorem dX9_settle_27 : decode cX9_settle 27 = .ok (.aload_n 0, 1) := by decide +kernel
theorem dX9_settle_28 : decode cX9_settle 28 = .ok (.getfield 30, 3) := by decide +kernel
theorem dX9_settle_31 : decode cX9_settle 31 = .ok (.iload_n 1, 1) := by decide +kernel
theorem dX9_settle_32 : decode cX9_settle 32 = .ok (.iconst 1, 1) := by decide +kernel
theorem dX9_settle_33 : decode cX9_settle 33 = .ok (.iadd, 1) := by decide +kernel
theorem dX9_settle_34 : decode cX9_settle 34 = .ok (.aload_n 0, 1) := by decide +kernel
theorem dX9_settle_35 : decode cX9_settle 35 = .ok (.getfield 30, 3) := by decide +kernel
theorem dX9_settle_38 : decode cX9_settle 38 = .ok (.iload_n 1, 1) := by decide +kernel
theorem dX9_settle_39 : decode cX9_settle 39 = .ok (.iaload, 1) := by decide +kernel
theorem dX9_settle_40 : decode cX9_settle 40 = .ok (.aload_n 0, 1) := by decide +kernel
theorem dX9_settle_41 : decode cX9_settle 41 = .ok (.getfield 49, 3) := by decide +kernel
theorem dX9_settle_44 : decode cX9_settle 44 = .ok (.imul, 1) := by decide +kernel
theorem dX9_settle_45 : decode cX9_settle 45 = .ok (.iastore, 1) := by decide +kernel
theorem dX9_settle_46 : decode cX9_settle 46 = .ok (.aload_n 0, 1) := by decide +kernel
theorem dX9_settle_47 : decode cX9_settle 47 = .ok (.getfield 21, 3) := by decide +kernel
theorem dX9_settle_50 : decode cX9_settle 50 = .ok (.iload_n 1, 1) := by decide +kernel
theorem dX9_settle_51 : decode cX9_settle 51 = .ok (.iaload, 1) := by decide +kernel
theorem dX9_settle_52 : decode cX9_settle 52 = .ok (.iconst (-1), 1) := by decide +kernel
theorem dX9_settle_53 : decode cX9_settle 53 = .ok (.if_icmp .ne 20, 3) := by decide +kernel
theorem dX9_settle_56 : decode cX9_settle 56 = .ok (.aload_n 0, 1) := by decide +kernel
theorem dX9_settle_57 : decode cX9_settle 57 = .ok (.dup, 1) := by decide +kernel
theorem dX9_settle_58 : decode cX9_settle 58 = .ok (.getfield 74, 3) := by decide +kernel
theorem dX9_settle_61 : decode cX9_settle 61 = .ok (.iconst 1, 1) := by decide +kernel
theorem dX9_settle_62 : decode cX9_settle 62 = .ok (.iload_n 1, 1) := by decide +kernel
theorem dX9_settle_63 : decode cX9_settle 63 = .ok (.ishl, 1) := by decide +kernel
theorem dX9_settle_64 : decode cX9_settle 64 = .ok (.ior, 1) := by decide +kernel
theorem dX9_settle_65 : decode cX9_settle 65 = .ok (.putfield 74, 3) := by decide +kernel
theorem dX9_settle_68 : decode cX9_settle 68 = .ok (.aload_n 0, 1) := by decide +kernel
theorem dX9_settle_69 : decode cX9_settle 69 = .ok (.iload_n 1, 1) := by decide +kernel
theorem dX9_settle_70 : decode cX9_settle 70 = .ok (.invokevirtual 80, 3) := by decide +kernel
theorem dX9_settle_73 : decode cX9_settle 73 = .ok (.iinc 1 1, 3) := by decide +kernel
theorem dX9_settle_76 : decode cX9_settle 76 = .ok (.goto (-57), 3) := by decide +kernel
theorem dX9_settle_79 : decode cX9_settle 79 = .ok (.aload_n 0, 1) := by decide +kernel
theorem dX9_settle_80 : decode cX9_settle 80 = .ok (.aload_n 0, 1) := by decide +kernel
theorem dX9_settle_81 : decode cX9_settle 81 = .ok (.getfield 74, 3) := by decide +kernel
theorem dX9_settle_84 : decode cX9_settle 84 = .ok (.invokestatic 84, 3) := by decide +kernel
theorem dX9_settle_87 : decode cX9_settle 87 = .ok (.putfield 90, 3) := by decide +kernel
theorem dX9_settle_90 : decode cX9_settle 90 = .ok (.aload_n 0, 1) := by decide +kernel
theorem dX9_settle_91 : decode cX9_settle 91 = .ok (.aload_n 0, 1) := by decide +kernel
theorem dX9_settle_92 : decode cX9_settle 92 = .ok (.getfield 30, 3) := by decide +kernel
theorem dX9_settle_95 : decode cX9_settle 95 = .ok (.aload_n 0, 1) := by decide +kernel
theorem dX9_settle_96 : decode cX9_settle 96 = .ok (.getfield 45, 3) := by decide +kernel
theorem dX9_settle_99 : decode cX9_settle 99 = .ok (.iaload, 1) := by decide +kernel
theorem dX9_settle_100 : decode cX9_settle 100 = .ok (.sipush 1024, 3) := by decide +kernel
theorem dX9_settle_103 : decode cX9_settle 103 = .ok (.invokestatic 93, 3) := by decide +kernel
theorem dX9_settle_106 : decode cX9_settle 106 = .ok (.putfield 99, 3) := by decide +kernel
theorem dX9_settle_109 : decode cX9_settle 109 = .ok (.aload_n 0, 1) := by decide +kernel
theorem dX9_settle_110 : decode cX9_settle 110 = .ok (.iconst 0, 1) := by decide +kernel
theorem dX9_settle_111 : decode cX9_settle 111 = .ok (.putfield 102, 3) := by decide +kernel
theorem dX9_settle_114 : decode cX9_settle 114 = .ok (.iconst 0, 1) := by decide +kernel
theorem dX9_settle_115 : decode cX9_settle 115 = .ok (.istore_n 1, 1) := by decide +kernel
theorem dX9_settle_116 : decode cX9_settle 116 = .ok (.iload_n 1, 1) := by decide +kernel
theorem dX9_settle_117 : decode cX9_settle 117 = .ok (.aload_n 0, 1) := by decide +kernel
theorem dX9_settle_118 : decode cX9_settle 118 = .ok (.getfield 99, 3) := by decide +kernel
theorem dX9_settle_121 : decode cX9_settle 121 = .ok (.if_icmp .ge 37, 3) := by decide +kernel
theorem dX9_settle_124 : decode cX9_settle 124 = .ok (.aload_n 0, 1) := by decide +kernel
theorem dX9_settle_125 : decode cX9_settle 125 = .ok (.iload_n 1, 1) := by decide +kernel
theorem dX9_settle_126 : decode cX9_settle 126 = .ok (.invokevirtual 105, 3) := by decide +kernel
theorem dX9_settle_129 : decode cX9_settle 129 = .ok (.ifCond .eq 23, 3) := by decide +kernel
theorem dX9_settle_132 : decode cX9_settle 132 = .ok (.aload_n 0, 1) := by decide +kernel
theorem dX9_settle_133 : decode cX9_settle 133 = .ok (.getfield 33, 3) := by decide +kernel
theorem dX9_settle_136 : decode cX9_settle 136 = .ok (.aload_n 0, 1) := by decide +kernel
theorem dX9_settle_137 : decode cX9_settle 137 = .ok (.getfield 102, 3) := by decide +kernel
theorem dX9_settle_140 : decode cX9_settle 140 = .ok (.iload_n 1, 1) := by decide +kernel
theorem dX9_settle_141 : decode cX9_settle 141 = .ok (.iastore, 1) := by decide +kernel
theorem dX9_settle_142 : decode cX9_settle 142 = .ok (.aload_n 0, 1) := by decide +kernel
theorem dX9_settle_143 : decode cX9_settle 143 = .ok (.dup, 1) := by decide +kernel
theorem dX9_settle_144 : decode cX9_settle 144 = .ok (.getfield 102, 3) := by decide +kernel
theorem dX9_settle_147 : decode cX9_settle 147 = .ok (.iconst 1, 1) := by decide +kernel
theorem dX9_settle_148 : decode cX9_settle 148 = .ok (.iadd, 1) := by decide +kernel
theorem dX9_settle_149 : decode cX9_settle 149 = .ok (.putfield 102, 3) := by decide +kernel
theorem dX9_settle_152 : decode cX9_settle 152 = .ok (.iinc 1 1, 3) := by decide +kernel
theorem dX9_settle_155 : decode cX9_settle 155 = .ok (.goto (-39), 3) := by decide +kernel
theorem dX9_settle_158 : decode cX9_settle 158 = .ok (.return_, 1) := by decide +kernel
theorem b_X9_settle_0 {i : Nat} {σ : St} {Q : Res → St → Prop} (h : WP mX9_settle 19 [vR 10 i, vI 0] [] (up (up (up σ 10 i 9 0) 10 i 13 0) 60 i 0 1) Q) : WP mX9_settle 0 [vR 10 i, vU] [] σ Q := by
  refine wp_aload_n dX9_settle_0 rfl rfl ?_
  refine wp_iconst dX9_settle_1 rfl ?_
  refine wp_putI dX9_settle_2 fp_CustomValley_Valley_74 rfl rfl rfl ?_
  refine wp_aload_n dX9_settle_5 rfl rfl ?_
  refine wp_iconst dX9_settle_6 rfl ?_
  refine wp_putI dX9_settle_7 fp_CustomValley_Valley_77 rfl rfl rfl ?_
  refine wp_aload_n dX9_settle_10 rfl rfl ?_
  refine wp_getR dX9_settle_11 fl_CustomValley_Valley_30 rfl rfl ?_
  refine wp_iconst dX9_settle_14 rfl ?_
  refine wp_iconst dX9_settle_15 rfl ?_
  refine wp_iastore dX9_settle_16 rfl rfl (by decide) (by decide) ?_
  refine wp_iconst dX9_settle_17 rfl ?_
  refine wp_istore_n dX9_settle_18 rfl (by decide) rfl rfl ?_
  exact h
theorem b_X9_settle_19 {i : Nat} {x1 : Int} {σ : St} {Q : Res → St → Prop} (h : (((σ 10 i 0) ≤ x1) → ((0 ≤ (σ 10 i 9) ∧ ((σ 10 i 9)) < 1024) ∧ ((0 ≤ σ 10 i 0 ∧ (σ 10 i 0) < 11) ∧ (WP mX9_settle 116 [vR 10 i, vI 0] [] (up (up (up σ 10 i 10 (bcnt ((σ 10 i 9)))) 10 i 11 (min (σ 60 i ((σ 10 i 0).toNat)) 1024)) 10 i 12 0) Q)))) ∧ ((x1 < (σ 10 i 0)) → ((in32 (x1 + 1)) ∧ ((0 ≤ x1 ∧ x1 < 11) ∧ ((in32 ((σ 60 i x1.toNat) * (σ 10 i 1))) ∧ ((0 ≤ x1 + 1 ∧ (x1 + 1) < 11) ∧ ((0 ≤ x1 ∧ x1 < 10) ∧ ((((σ 57 i x1.toNat) ≠ (-1)) → (WP mX9_settle 73 [vR 10 i, vI x1] [] (up σ 60 i ((x1 + 1).toNat) ((σ 60 i x1.toNat) * (σ 10 i 1))) Q)) ∧ (((σ 57 i x1.toNat) = (-1)) → (WP mX9_addMoves 0 [vR 10 i, vI x1, vU] [] (up (up σ 60 i ((x1 + 1).toNat) ((σ 60 i x1.toNat) * (σ 10 i 1))) 10 i 9 (bor (σ 10 i 9) (shl 1 x1))) (CT mX9_settle 73 [vR 10 i, vI x1] [] Q))))))))))) : WP mX9_settle 19 [vR 10 i, vI x1] [] σ Q := by
  refine wp_iload_n dX9_settle_19 rfl rfl ?_
  refine wp_aload_n dX9_settle_20 rfl rfl ?_
  refine wp_getI dX9_settle_21 fl_CustomValley_Valley_45 rfl rfl rfl ?_
  refine wp_icmp_ge (tgt := 79) dX9_settle_24 (by decide) (fun hc => ?_) (fun hc => ?_)
  · replace h := h.1 hc
    refine wp_aload_n dX9_settle_79 rfl rfl ?_
    refine wp_aload_n dX9_settle_80 rfl rfl ?_
    refine wp_getI dX9_settle_81 fl_CustomValley_Valley_74 rfl rfl rfl ?_
    have s2 := h.1
    replace h := h.2
    refine wp_invS (N := mJ6_bitCount_0f7a4) [vI (σ 10 i 9)] dX9_settle_84 ml_CustomValley_Valley_84 mvJ6_bitCount_0f7a4 rfl rfl rfl (Nat.le_of_ble_eq_true rfl) (Nat.le_of_ble_eq_true rfl) (by decide) (by decide) ?_
    refine pb_J6_bitCount_0f7a4 s2 ?_
    show WP mX9_settle 87 [vR 10 i, vI x1] [vI (bcnt ((σ 10 i 9))), vR 10 i] σ Q
    refine wp_putI dX9_settle_87 fp_CustomValley_Valley_90 rfl rfl rfl ?_
    refine wp_aload_n dX9_settle_90 rfl rfl ?_
    refine wp_aload_n dX9_settle_91 rfl rfl ?_
    refine wp_getR dX9_settle_92 fl_CustomValley_Valley_30 rfl rfl ?_
    refine wp_aload_n dX9_settle_95 rfl rfl ?_
    refine wp_getI dX9_settle_96 fl_CustomValley_Valley_45 rfl rfl rfl ?_
    rw [show (up σ 10 i 10 (bcnt ((σ 10 i 9)))) 10 i 0 = σ 10 i 0 from by simp [up]]
    have s1 := h.1
    replace h := h.2
    refine wp_iaload dX9_settle_99 rfl rfl s1.1 s1.2 ?_
    rw [show (up σ 10 i 10 (bcnt ((σ 10 i 9)))) 60 i ((σ 10 i 0).toNat) = σ 60 i ((σ 10 i 0).toNat) from by simp [up]]
    refine wp_sipush dX9_settle_100 rfl ?_
    refine wp_mmin dX9_settle_103 mm_CustomValley_Valley_93 (by decide) (Nat.le_of_ble_eq_true rfl) ?_
    refine wp_putI dX9_settle_106 fp_CustomValley_Valley_99 rfl rfl rfl ?_
    refine wp_aload_n dX9_settle_109 rfl rfl ?_
    refine wp_iconst dX9_settle_110 rfl ?_
    refine wp_putI dX9_settle_111 fp_CustomValley_Valley_102 rfl rfl rfl ?_
    refine wp_iconst dX9_settle_114 rfl ?_
    refine wp_istore_n dX9_settle_115 rfl (by decide) rfl rfl ?_
    exact h
  · replace h := h.2 hc
    refine wp_aload_n dX9_settle_27 rfl rfl ?_
    refine wp_getR dX9_settle_28 fl_CustomValley_Valley_30 rfl rfl ?_
    refine wp_iload_n dX9_settle_31 rfl rfl ?_
    refine wp_iconst dX9_settle_32 rfl ?_
    have s7 := h.1
    replace h := h.2
    refine wp_iadd dX9_settle_33 ?_ (h1 := s7.1) (h2 := s7.2)
    refine wp_aload_n dX9_settle_34 rfl rfl ?_
    refine wp_getR dX9_settle_35 fl_CustomValley_Valley_30 rfl rfl ?_
    refine wp_iload_n dX9_settle_38 rfl rfl ?_
    have s6 := h.1
    replace h := h.2
    refine wp_iaload dX9_settle_39 rfl rfl s6.1 s6.2 ?_
    refine wp_aload_n dX9_settle_40 rfl rfl ?_
    refine wp_getI dX9_settle_41 fl_CustomValley_Valley_49 rfl rfl rfl ?_
    have s5 := h.1
    replace h := h.2
    refine wp_imul dX9_settle_44 ?_ (h1 := s5.1) (h2 := s5.2)
    have s4 := h.1
    replace h := h.2
    refine wp_iastore dX9_settle_45 rfl rfl s4.1 s4.2 ?_
    refine wp_aload_n dX9_settle_46 rfl rfl ?_
    refine wp_getR dX9_settle_47 fl_CustomValley_Valley_21 rfl rfl ?_
    refine wp_iload_n dX9_settle_50 rfl rfl ?_
    have s3 := h.1
    replace h := h.2
    refine wp_iaload dX9_settle_51 rfl rfl s3.1 s3.2 ?_
    rw [show (up σ 60 i ((x1 + 1).toNat) ((σ 60 i x1.toNat) * (σ 10 i 1))) 57 i x1.toNat = σ 57 i x1.toNat from by simp [up]]
    refine wp_iconst dX9_settle_52 rfl ?_
    refine wp_icmp_ne (tgt := 73) dX9_settle_53 (by decide) (fun hc => ?_) (fun hc => ?_)
    · replace h := h.1 hc
      exact h
    · replace h := h.2 hc
      refine wp_aload_n dX9_settle_56 rfl rfl ?_
      refine wp_dup dX9_settle_57 ?_
      refine wp_getI dX9_settle_58 fl_CustomValley_Valley_74 rfl rfl rfl ?_
      rw [show (up σ 60 i ((x1 + 1).toNat) ((σ 60 i x1.toNat) * (σ 10 i 1))) 10 i 9 = σ 10 i 9 from by simp [up]]
      refine wp_iconst dX9_settle_61 rfl ?_
      refine wp_iload_n dX9_settle_62 rfl rfl ?_
      refine wp_ishl dX9_settle_63 ?_
      refine wp_ior dX9_settle_64 ?_
      refine wp_putI dX9_settle_65 fp_CustomValley_Valley_74 rfl rfl rfl ?_
      refine wp_aload_n dX9_settle_68 rfl rfl ?_
      refine wp_iload_n dX9_settle_69 rfl rfl ?_
      refine wp_invV (N := mX9_addMoves) [vI x1] dX9_settle_70 ml_CustomValley_Valley_80 mvX9_addMoves rfl rfl rfl rfl rfl (Nat.le_of_ble_eq_true rfl) (Nat.le_of_ble_eq_true rfl) (by decide) (by decide) (by decide) ?_
      exact h
theorem b_X9_settle_73 {i : Nat} {x1 : Int} {σ : St} {Q : Res → St → Prop} (h : (in32 (x1 + 1)) ∧ (WP mX9_settle 19 [vR 10 i, vI (x1 + 1)] [] σ Q)) : WP mX9_settle 73 [vR 10 i, vI x1] [] σ Q := by
  have s1 := h.1
  replace h := h.2
  refine wp_iinc dX9_settle_73 rfl (by decide) rfl rfl ?_ (h1 := s1.1) (h2 := s1.2)
  refine wp_goto (tgt := 19) dX9_settle_76 (by decide) ?_
  exact h
theorem b_X9_settle_116 {i : Nat} {x1 : Int} {σ : St} {Q : Res → St → Prop} (h : (((σ 10 i 11) ≤ x1) → (Q (.inl none) σ)) ∧ ((x1 < (σ 10 i 11)) → (WP mX9_isState 0 [vR 10 i, vI x1, vU] [] σ (CT mX9_settle 129 [vR 10 i, vI x1] [] Q)))) : WP mX9_settle 116 [vR 10 i, vI x1] [] σ Q := by
  refine wp_iload_n dX9_settle_116 rfl rfl ?_
  refine wp_aload_n dX9_settle_117 rfl rfl ?_
  refine wp_getI dX9_settle_118 fl_CustomValley_Valley_99 rfl rfl rfl ?_
  refine wp_icmp_ge (tgt := 158) dX9_settle_121 (by decide) (fun hc => ?_) (fun hc => ?_)
  · replace h := h.1 hc
    exact wp_ret dX9_settle_158 rfl h
  · replace h := h.2 hc
    refine wp_aload_n dX9_settle_124 rfl rfl ?_
    refine wp_iload_n dX9_settle_125 rfl rfl ?_
    refine wp_invV (N := mX9_isState) [vI x1] dX9_settle_126 ml_CustomValley_Valley_105 mvX9_isState rfl rfl rfl rfl rfl (Nat.le_of_ble_eq_true rfl) (Nat.le_of_ble_eq_true rfl) (by decide) (by decide) (by decide) ?_
    exact h
theorem b_X9_settle_129 {i : Nat} {x1 : Int} {t0 : Int} {σ : St} {Q : Res → St → Prop} (h : ((t0 = 0) → ((in32 (x1 + 1)) ∧ (WP mX9_settle 116 [vR 10 i, vI (x1 + 1)] [] σ Q))) ∧ ((t0 ≠ 0) → ((0 ≤ σ 10 i 12 ∧ (σ 10 i 12) < 1024) ∧ ((in32 ((σ 10 i 12) + 1)) ∧ ((in32 (x1 + 1)) ∧ (WP mX9_settle 116 [vR 10 i, vI (x1 + 1)] [] (up (up σ 61 i ((σ 10 i 12).toNat) x1) 10 i 12 ((σ 10 i 12) + 1)) Q)))))) : WP mX9_settle 129 [vR 10 i, vI x1] [vI t0] σ Q := by
  refine wp_if_eq (tgt := 152) dX9_settle_129 (by decide) (fun hc => ?_) (fun hc => ?_)
  · replace h := h.1 hc
    have s1 := h.1
    replace h := h.2
    refine wp_iinc dX9_settle_152 rfl (by decide) rfl rfl ?_ (h1 := s1.1) (h2 := s1.2)
    refine wp_goto (tgt := 116) dX9_settle_155 (by decide) ?_
    exact h
  · replace h := h.2 hc
    refine wp_aload_n dX9_settle_132 rfl rfl ?_
    refine wp_getR dX9_settle_133 fl_CustomValley_Valley_33 rfl rfl ?_
    refine wp_aload_n dX9_settle_136 rfl rfl ?_
    refine wp_getI dX9_settle_137 fl_CustomValley_Valley_102 rfl rfl rfl ?_
    refine wp_iload_n dX9_settle_140 rfl rfl ?_
    have s4 := h.1
    replace h := h.2
    refine wp_iastore dX9_settle_141 rfl rfl s4.1 s4.2 ?_
    refine wp_aload_n dX9_settle_142 rfl rfl ?_
    refine wp_dup dX9_settle_143 ?_
    refine wp_getI dX9_settle_144 fl_CustomValley_Valley_102 rfl rfl rfl ?_
    rw [show (up σ 61 i ((σ 10 i 12).toNat) x1) 10 i 12 = σ 10 i 12 from by simp [up]]
    refine wp_iconst dX9_settle_147 rfl ?_
    have s3 := h.1
    replace h := h.2
    refine wp_iadd dX9_settle_148 ?_ (h1 := s3.1) (h2 := s3.2)
    refine wp_putI dX9_settle_149 fp_CustomValley_Valley_102 rfl rfl rfl ?_
    have s2 := h.1
    replace h := h.2
    refine wp_iinc dX9_settle_152 rfl (by decide) rfl rfl ?_ (h1 := s2.1) (h2 := s2.2)
    refine wp_goto (tgt := 116) dX9_settle_155 (by decide) ?_
    exact h
theorem dX9_copyFrom_0 : decode cX9_copyFrom 0 = .ok (.aload_n 0, 1) := by decide +kernel
theorem dX9_copyFrom_1 : decode cX9_copyFrom 1 = .ok (.aload_n 1, 1) := by decide +kernel
theorem dX9_copyFrom_2 : decode cX9_copyFrom 2 = .ok (.getfield 45, 3) := by decide +kernel
theorem dX9_copyFrom_5 : decode cX9_copyFrom 5 = .ok (.putfield 45, 3) := by decide +kernel
theorem dX9_copyFrom_8 : decode cX9_copyFrom 8 = .ok (.aload_n 0, 1) := by decide +kernel
theorem dX9_copyFrom_9 : decode cX9_copyFrom 9 = .ok (.aload_n 1, 1) := by decide +kernel
theorem dX9_copyFrom_10 : decode cX9_copyFrom 10 = .ok (.getfield 49, 3) := by decide +kernel
theorem dX9_copyFrom_13 : decode cX9_copyFrom 13 = .ok (.putfield 49, 3) := by decide +kernel
theorem dX9_copyFrom_16 : decode cX9_copyFrom 16 = .ok (.aload_n 0, 1) := by decide +kernel
theorem dX9_copyFrom_17 : decode cX9_copyFrom 17 = .ok (.aload_n 1, 1) := by decide +kernel
theorem dX9_copyFrom_18 : decode cX9_copyFrom 18 = .ok (.getfield 52, 3) := by decide +kernel
theorem dX9_copyFrom_21 : decode cX9_copyFrom 21 = .ok (.putfield 52, 3) := by decide +kernel
theorem dX9_copyFrom_24 : decode cX9_copyFrom 24 = .ok (.aload_n 0, 1) := by decide +kernel
theorem dX9_copyFrom_25 : decode cX9_copyFrom 25 = .ok (.aload_n 1, 1) := by decide +kernel
theorem dX9_copyFrom_26 : decode cX9_copyFrom 26 = .ok (.getfield 55, 3) := by decide +kernel
theorem dX9_copyFrom_29 : decode cX9_copyFrom 29 = .ok (.putfield 55, 3) := by decide +kernel
theorem dX9_copyFrom_32 : decode cX9_copyFrom 32 = .ok (.aload_n 0, 1) := by decide +kernel
theorem dX9_copyFrom_33 : decode cX9_copyFrom 33 = .ok (.aload_n 1, 1) := by decide +kernel
theorem dX9_copyFrom_34 : decode cX9_copyFrom 34 = .ok (.getfield 59, 3) := by decide +kernel
theorem dX9_copyFrom_37 : decode cX9_copyFrom 37 = .ok (.putfield 59, 3) := by decide +kernel
theorem dX9_copyFrom_40 : decode cX9_copyFrom 40 = .ok (.aload_n 1, 1) := by decide +kernel
theorem dX9_copyFrom_41 : decode cX9_copyFrom 41 = .ok (.getfield 9, 3) := by decide +kernel
theorem dX9_copyFrom_44 : decode cX9_copyFrom 44 = .ok (.iconst 0, 1) := by decide +kernel
theorem dX9_copyFrom_45 : decode cX9_copyFrom 45 = .ok (.aload_n 0, 1) := by decide +kernel
theorem dX9_copyFrom_46 : decode cX9_copyFrom 46 = .ok (.getfield 9, 3) := by decide +kernel
theorem dX9_copyFrom_49 : decode cX9_copyFrom 49 = .ok (.iconst 0, 1) := by decide +kernel
theorem dX9_copyFrom_50 : decode cX9_copyFrom 50 = .ok (.aload_n 0, 1) := by decide +kernel
theorem dX9_copyFrom_51 : decode cX9_copyFrom 51 = .ok (.getfield 9, 3) := by decide +kernel
theorem dX9_copyFrom_54 : decode cX9_copyFrom 54 = .ok (.arraylength, 1) := by decide +kernel
theorem dX9_copyFrom_55 : decode cX9_copyFrom 55 = .ok (.invokestatic 68, 3) := by decide +kernel
theorem dX9_copyFrom_58 : decode cX9_copyFrom 58 = .ok (.aload_n 1, 1) := by decide +kernel
theorem dX9_copyFrom_59 : decode cX9_copyFrom 59 = .ok (.getfield 15, 3) := by decide +kernel
theorem dX9_copyFrom_62 : decode cX9_copyFrom 62 = .ok (.iconst 0, 1) := by decide +kernel
theorem dX9_copyFrom_63 : decode cX9_copyFrom 63 = .ok (.aload_n 0, 1) := by decide +kernel
theorem dX9_copyFrom_64 : decode cX9_copyFrom 64 = .ok (.getfield 15, 3) := by decide +kernel
theorem dX9_copyFrom_67 : decode cX9_copyFrom 67 = .ok (.iconst 0, 1) := by decide +kernel
theorem dX9_copyFrom_68 : decode cX9_copyFrom 68 = .ok (.aload_n 0, 1) := by decide +kernel
theorem dX9_copyFrom_69 : decode cX9_copyFrom 69 = .ok (.getfield 15, 3) := by decide +kernel
theorem dX9_copyFrom_72 : decode cX9_copyFrom 72 = .ok (.arraylength, 1) := by decide +kernel
theorem dX9_copyFrom_73 : decode cX9_copyFrom 73 = .ok (.invokestatic 68, 3) := by decide +kernel
theorem dX9_copyFrom_76 : decode cX9_copyFrom 76 = .ok (.aload_n 1, 1) := by decide +kernel
theorem dX9_copyFrom_77 : decode cX9_copyFrom 77 = .ok (.getfield 18, 3) := by decide +kernel
theorem dX9_copyFrom_80 : decode cX9_copyFrom 80 = .ok (.iconst 0, 1) := by decide +kernel
theorem dX9_copyFrom_81 : decode cX9_copyFrom 81 = .ok (.aload_n 0, 1) := by decide +kernel
theorem dX9_copyFrom_82 : decode cX9_copyFrom 82 = .ok (.getfield 18, 3) := by decide +kernel
theorem dX9_copyFrom_85 : decode cX9_copyFrom 85 = .ok (.iconst 0, 1) := by decide +kernel
theorem dX9_copyFrom_86 : decode cX9_copyFrom 86 = .ok (.aload_n 0, 1) := by decide +kernel
theorem dX9_copyFrom_87 : decode cX9_copyFrom 87 = .ok (.getfield 18, 3) := by decide +kernel
theorem dX9_copyFrom_90 : decode cX9_copyFrom 90 = .ok (.arraylength, 1) := by decide +kernel
theorem dX9_copyFrom_91 : decode cX9_copyFrom 91 = .ok (.invokestatic 68, 3) := by decide +kernel
theorem dX9_copyFrom_94 : decode cX9_copyFrom 94 = .ok (.aload_n 1, 1) := by decide +kernel
theorem dX9_copyFrom_95 : decode cX9_copyFrom 95 = .ok (.getfield 21, 3) := by decide +kernel
theorem dX9_copyFrom_98 : decode cX9_copyFrom 98 = .ok (.iconst 0, 1) := by decide +kernel
theorem dX9_copyFrom_99 : decode cX9_copyFrom 99 = .ok (.aload_n 0, 1) := by decide +kernel
theorem dX9_copyFrom_100 : decode cX9_copyFrom 100 = .ok (.getfield 21, 3) := by decide +kernel
theorem dX9_copyFrom_103 : decode cX9_copyFrom 103 = .ok (.iconst 0, 1) := by decide +kernel
theorem dX9_copyFrom_104 : decode cX9_copyFrom 104 = .ok (.aload_n 0, 1) := by decide +kernel
theorem dX9_copyFrom_105 : decode cX9_copyFrom 105 = .ok (.getfield 21, 3) := by decide +kernel
theorem dX9_copyFrom_108 : decode cX9_copyFrom 108 = .ok (.arraylength, 1) := by decide +kernel
theorem dX9_copyFrom_109 : decode cX9_copyFrom 109 = .ok (.invokestatic 68, 3) := by decide +kernel
theorem dX9_copyFrom_112 : decode cX9_copyFrom 112 = .ok (.aload_n 0, 1) := by decide +kernel
theorem dX9_copyFrom_113 : decode cX9_copyFrom 113 = .ok (.invokevirtual 42, 3) := by decide +kernel
theorem dX9_copyFrom_116 : decode cX9_copyFrom 116 = .ok (.return_, 1) := by decide +kernel
theorem b_X9_copyFrom_0 {i : Nat} {j : Nat} {σ : St} {Q : Res → St → Prop} (h : ((σ 10 j 3) = 0 ∨ (σ 10 j 3) = 1) ∧ (WP mX9_settle 0 [vR 10 i, vU] [] (upR (upR (upR (upR (up (up (up (up (up σ 10 i 0 (σ 10 j 0)) 10 i 1 (σ 10 j 1)) 10 i 2 (σ 10 j 2)) 10 i 3 (σ 10 j 3)) 10 i 4 (σ 10 j 4)) 54 i 0 16 (fun k9 => (up (up (up (up (up σ 10 i 0 (σ 10 j 0)) 10 i 1 (σ 10 j 1)) 10 i 2 (σ 10 j 2)) 10 i 3 (σ 10 j 3)) 10 i 4 (σ 10 j 4)) 54 j (0 + k9))) 55 i 0 4 (fun k9 => (upR (up (up (up (up (up σ 10 i 0 (σ 10 j 0)) 10 i 1 (σ 10 j 1)) 10 i 2 (σ 10 j 2)) 10 i 3 (σ 10 j 3)) 10 i 4 (σ 10 j 4)) 54 i 0 16 (fun k9 => (up (up (up (up (up σ 10 i 0 (σ 10 j 0)) 10 i 1 (σ 10 j 1)) 10 i 2 (σ 10 j 2)) 10 i 3 (σ 10 j 3)) 10 i 4 (σ 10 j 4)) 54 j (0 + k9))) 55 j (0 + k9))) 56 i 0 10 (fun k9 => (upR (upR (up (up (up (up (up σ 10 i 0 (σ 10 j 0)) 10 i 1 (σ 10 j 1)) 10 i 2 (σ 10 j 2)) 10 i 3 (σ 10 j 3)) 10 i 4 (σ 10 j 4)) 54 i 0 16 (fun k9 => (up (up (up (up (up σ 10 i 0 (σ 10 j 0)) 10 i 1 (σ 10 j 1)) 10 i 2 (σ 10 j 2)) 10 i 3 (σ 10 j 3)) 10 i 4 (σ 10 j 4)) 54 j (0 + k9))) 55 i 0 4 (fun k9 => (upR (up (up (up (up (up σ 10 i 0 (σ 10 j 0)) 10 i 1 (σ 10 j 1)) 10 i 2 (σ 10 j 2)) 10 i 3 (σ 10 j 3)) 10 i 4 (σ 10 j 4)) 54 i 0 16 (fun k9 => (up (up (up (up (up σ 10 i 0 (σ 10 j 0)) 10 i 1 (σ 10 j 1)) 10 i 2 (σ 10 j 2)) 10 i 3 (σ 10 j 3)) 10 i 4 (σ 10 j 4)) 54 j (0 + k9))) 55 j (0 + k9))) 56 j (0 + k9))) 57 i 0 10 (fun k9 => (upR (upR (upR (up (up (up (up (up σ 10 i 0 (σ 10 j 0)) 10 i 1 (σ 10 j 1)) 10 i 2 (σ 10 j 2)) 10 i 3 (σ 10 j 3)) 10 i 4 (σ 10 j 4)) 54 i 0 16 (fun k9 => (up (up (up (up (up σ 10 i 0 (σ 10 j 0)) 10 i 1 (σ 10 j 1)) 10 i 2 (σ 10 j 2)) 10 i 3 (σ 10 j 3)) 10 i 4 (σ 10 j 4)) 54 j (0 + k9))) 55 i 0 4 (fun k9 => (upR (up (up (up (up (up σ 10 i 0 (σ 10 j 0)) 10 i 1 (σ 10 j 1)) 10 i 2 (σ 10 j 2)) 10 i 3 (σ 10 j 3)) 10 i 4 (σ 10 j 4)) 54 i 0 16 (fun k9 => (up (up (up (up (up σ 10 i 0 (σ 10 j 0)) 10 i 1 (σ 10 j 1)) 10 i 2 (σ 10 j 2)) 10 i 3 (σ 10 j 3)) 10 i 4 (σ 10 j 4)) 54 j (0 + k9))) 55 j (0 + k9))) 56 i 0 10 (fun k9 => (upR (upR (up (up (up (up (up σ 10 i 0 (σ 10 j 0)) 10 i 1 (σ 10 j 1)) 10 i 2 (σ 10 j 2)) 10 i 3 (σ 10 j 3)) 10 i 4 (σ 10 j 4)) 54 i 0 16 (fun k9 => (up (up (up (up (up σ 10 i 0 (σ 10 j 0)) 10 i 1 (σ 10 j 1)) 10 i 2 (σ 10 j 2)) 10 i 3 (σ 10 j 3)) 10 i 4 (σ 10 j 4)) 54 j (0 + k9))) 55 i 0 4 (fun k9 => (upR (up (up (up (up (up σ 10 i 0 (σ 10 j 0)) 10 i 1 (σ 10 j 1)) 10 i 2 (σ 10 j 2)) 10 i 3 (σ 10 j 3)) 10 i 4 (σ 10 j 4)) 54 i 0 16 (fun k9 => (up (up (up (up (up σ 10 i 0 (σ 10 j 0)) 10 i 1 (σ 10 j 1)) 10 i 2 (σ 10 j 2)) 10 i 3 (σ 10 j 3)) 10 i 4 (σ 10 j 4)) 54 j (0 + k9))) 55 j (0 + k9))) 56 j (0 + k9))) 57 j (0 + k9))) (CT mX9_copyFrom 116 [vU, vU] [] Q))) : WP mX9_copyFrom 0 [vR 10 i, vR 10 j] [] σ Q := by
  refine wp_aload_n dX9_copyFrom_0 rfl rfl ?_
  refine wp_aload_n dX9_copyFrom_1 rfl rfl ?_
  refine wp_getI dX9_copyFrom_2 fl_CustomValley_Valley_45 rfl rfl rfl ?_
  refine wp_putI dX9_copyFrom_5 fp_CustomValley_Valley_45 rfl rfl rfl ?_
  refine wp_aload_n dX9_copyFrom_8 rfl rfl ?_
  refine wp_aload_n dX9_copyFrom_9 rfl rfl ?_
  refine wp_getI dX9_copyFrom_10 fl_CustomValley_Valley_49 rfl rfl rfl ?_
  rw [show (up σ 10 i 0 (σ 10 j 0)) 10 j 1 = σ 10 j 1 from by simp [up]]
  refine wp_putI dX9_copyFrom_13 fp_CustomValley_Valley_49 rfl rfl rfl ?_
  refine wp_aload_n dX9_copyFrom_16 rfl rfl ?_
  refine wp_aload_n dX9_copyFrom_17 rfl rfl ?_
  refine wp_getI dX9_copyFrom_18 fl_CustomValley_Valley_52 rfl rfl rfl ?_
  rw [show (up (up σ 10 i 0 (σ 10 j 0)) 10 i 1 (σ 10 j 1)) 10 j 2 = σ 10 j 2 from by simp [up]]
  refine wp_putI dX9_copyFrom_21 fp_CustomValley_Valley_52 rfl rfl rfl ?_
  refine wp_aload_n dX9_copyFrom_24 rfl rfl ?_
  refine wp_aload_n dX9_copyFrom_25 rfl rfl ?_
  refine wp_getI dX9_copyFrom_26 fl_CustomValley_Valley_55 rfl rfl rfl ?_
  rw [show (up (up (up σ 10 i 0 (σ 10 j 0)) 10 i 1 (σ 10 j 1)) 10 i 2 (σ 10 j 2)) 10 j 3 = σ 10 j 3 from by simp [up]]
  have s1 := h.1
  replace h := h.2
  refine wp_putZ dX9_copyFrom_29 fp_CustomValley_Valley_55 rfl rfl rfl s1 ?_
  refine wp_aload_n dX9_copyFrom_32 rfl rfl ?_
  refine wp_aload_n dX9_copyFrom_33 rfl rfl ?_
  refine wp_getI dX9_copyFrom_34 fl_CustomValley_Valley_59 rfl rfl rfl ?_
  rw [show (up (up (up (up σ 10 i 0 (σ 10 j 0)) 10 i 1 (σ 10 j 1)) 10 i 2 (σ 10 j 2)) 10 i 3 (σ 10 j 3)) 10 j 4 = σ 10 j 4 from by simp [up]]
  refine wp_putI dX9_copyFrom_37 fp_CustomValley_Valley_59 rfl rfl rfl ?_
  refine wp_aload_n dX9_copyFrom_40 rfl rfl ?_
  refine wp_getR dX9_copyFrom_41 fl_CustomValley_Valley_9 rfl rfl ?_
  refine wp_iconst dX9_copyFrom_44 rfl ?_
  refine wp_aload_n dX9_copyFrom_45 rfl rfl ?_
  refine wp_getR dX9_copyFrom_46 fl_CustomValley_Valley_9 rfl rfl ?_
  refine wp_iconst dX9_copyFrom_49 rfl ?_
  refine wp_aload_n dX9_copyFrom_50 rfl rfl ?_
  refine wp_getR dX9_copyFrom_51 fl_CustomValley_Valley_9 rfl rfl ?_
  refine wp_alen (n := 16) dX9_copyFrom_54 rfl (by decide) rfl ?_
  refine wp_copy dX9_copyFrom_55 cp_CustomValley_Valley_68 cp_nat cp_stat cp_ini rfl rfl rfl rfl (by decide) (by decide) (Nat.le_of_ble_eq_true rfl) (by decide) (by decide) (by decide) (by decide) (by decide) (by decide) ?_
  refine wp_aload_n dX9_copyFrom_58 rfl rfl ?_
  refine wp_getR dX9_copyFrom_59 fl_CustomValley_Valley_15 rfl rfl ?_
  refine wp_iconst dX9_copyFrom_62 rfl ?_
  refine wp_aload_n dX9_copyFrom_63 rfl rfl ?_
  refine wp_getR dX9_copyFrom_64 fl_CustomValley_Valley_15 rfl rfl ?_
  refine wp_iconst dX9_copyFrom_67 rfl ?_
  refine wp_aload_n dX9_copyFrom_68 rfl rfl ?_
  refine wp_getR dX9_copyFrom_69 fl_CustomValley_Valley_15 rfl rfl ?_
  refine wp_alen (n := 4) dX9_copyFrom_72 rfl (by decide) rfl ?_
  refine wp_copy dX9_copyFrom_73 cp_CustomValley_Valley_68 cp_nat cp_stat cp_ini rfl rfl rfl rfl (by decide) (by decide) (Nat.le_of_ble_eq_true rfl) (by decide) (by decide) (by decide) (by decide) (by decide) (by decide) ?_
  refine wp_aload_n dX9_copyFrom_76 rfl rfl ?_
  refine wp_getR dX9_copyFrom_77 fl_CustomValley_Valley_18 rfl rfl ?_
  refine wp_iconst dX9_copyFrom_80 rfl ?_
  refine wp_aload_n dX9_copyFrom_81 rfl rfl ?_
  refine wp_getR dX9_copyFrom_82 fl_CustomValley_Valley_18 rfl rfl ?_
  refine wp_iconst dX9_copyFrom_85 rfl ?_
  refine wp_aload_n dX9_copyFrom_86 rfl rfl ?_
  refine wp_getR dX9_copyFrom_87 fl_CustomValley_Valley_18 rfl rfl ?_
  refine wp_alen (n := 10) dX9_copyFrom_90 rfl (by decide) rfl ?_
  refine wp_copy dX9_copyFrom_91 cp_CustomValley_Valley_68 cp_nat cp_stat cp_ini rfl rfl rfl rfl (by decide) (by decide) (Nat.le_of_ble_eq_true rfl) (by decide) (by decide) (by decide) (by decide) (by decide) (by decide) ?_
  refine wp_aload_n dX9_copyFrom_94 rfl rfl ?_
  refine wp_getR dX9_copyFrom_95 fl_CustomValley_Valley_21 rfl rfl ?_
  refine wp_iconst dX9_copyFrom_98 rfl ?_
  refine wp_aload_n dX9_copyFrom_99 rfl rfl ?_
  refine wp_getR dX9_copyFrom_100 fl_CustomValley_Valley_21 rfl rfl ?_
  refine wp_iconst dX9_copyFrom_103 rfl ?_
  refine wp_aload_n dX9_copyFrom_104 rfl rfl ?_
  refine wp_getR dX9_copyFrom_105 fl_CustomValley_Valley_21 rfl rfl ?_
  refine wp_alen (n := 10) dX9_copyFrom_108 rfl (by decide) rfl ?_
  refine wp_copy dX9_copyFrom_109 cp_CustomValley_Valley_68 cp_nat cp_stat cp_ini rfl rfl rfl rfl (by decide) (by decide) (Nat.le_of_ble_eq_true rfl) (by decide) (by decide) (by decide) (by decide) (by decide) (by decide) ?_
  refine wp_aload_n dX9_copyFrom_112 rfl rfl ?_
  refine wp_invV (N := mX9_settle) [] dX9_copyFrom_113 ml_CustomValley_Valley_42 mvX9_settle rfl rfl rfl rfl rfl (Nat.le_of_ble_eq_true rfl) (Nat.le_of_ble_eq_true rfl) (by decide) (by decide) (by decide) ?_
  exact WP.mono h (ct_drop (lle_c (Or.inr rfl) (lle_c (Or.inr rfl) lle_n)))
theorem b_X9_copyFrom_116  {σ : St} {Q : Res → St → Prop} (h : Q (.inl none) σ) : WP mX9_copyFrom 116 [vU, vU] [] σ Q := by
  exact wp_ret dX9_copyFrom_116 rfl h
