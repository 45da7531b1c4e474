/-! ===== blocks: words, throwing methods, valley ===== -/
theorem cwX13_valley : Cond.codeWith yX13_valley cX13_valley 3 (some .int) [(0, 9, 12, 213)] ∈ TB := (tb_7 198 rfl rfl)
theorem clX13_valley : Cond.classLink "CustomValleyModel" 213 RX12 ∈ TB := (tb_6 75 rfl rfl)
theorem ctt_drop {M : MI} {pc : Nat} {als als' ast : List AV} {Q : Res → St → Prop} (h : lle als' als) : ∀ r σ', CTT M pc als' ast Q r σ' → CTT M pc als ast Q r σ' := by
  intro r σ' hq
  match r, hq with
  | .inl none, hq => exact wp_drop h hq
  | .inl (some a), hq => exact wp_drop h hq
  | .inr q, hq => exact hq
theorem mvX13_wrong : MV mX13_wrong 1 := ⟨⟨(tb_8 3 rfl rfl), (tb_1 16 rfl rfl), ⟨by decide, by decide, by decide +kernel⟩, pl_CustomValleyModel, by decide⟩, (tb_8 2 rfl rfl), (tb_0 21 rfl rfl)⟩
theorem ml_CustomValleyModel_53 : Cond.methodLink "CustomValleyModel" 53 yX13_wrong ∈ TB := (tb_8 0 rfl rfl)
theorem mvX13_need : MV mX13_need 2 := ⟨⟨(tb_7 239 rfl rfl), (tb_1 16 rfl rfl), ⟨by decide, by decide, by decide +kernel⟩, pl_CustomValleyModel, by decide⟩, (tb_7 238 rfl rfl), (tb_0 20 rfl rfl)⟩
theorem fl_CustomValleyModel_31 : FL "CustomValleyModel" 31 13 6 := ⟨RX13, TX13, 92, rfl, by decide, rfl, (tb_6 148 rfl rfl)⟩
theorem ml_CustomValleyModel_57 : Cond.methodLink "CustomValleyModel" 57 yX13_need ∈ TB := (tb_7 236 rfl rfl)
theorem mvX13_look : MV mX13_look 2 := ⟨⟨(tb_8 7 rfl rfl), (tb_1 16 rfl rfl), ⟨by decide, by decide, by decide +kernel⟩, pl_CustomValleyModel, by decide⟩, (tb_8 6 rfl rfl), (tb_0 22 rfl rfl)⟩
theorem ml_CustomValleyModel_65 : Cond.methodLink "CustomValleyModel" 65 yX13_look ∈ TB := (tb_8 4 rfl rfl)
theorem mvX13_number : MV mX13_number 2 := ⟨⟨(tb_8 37 rfl rfl), (tb_1 16 rfl rfl), ⟨by decide, by decide, by decide +kernel⟩, pl_CustomValleyModel, by decide⟩, (tb_8 36 rfl rfl), (tb_0 26 rfl rfl)⟩
theorem fl_CustomValleyModel_92 : FL "CustomValleyModel" 92 13 20 := ⟨RX13, TX13, 92, rfl, by decide, rfl, (tb_6 162 rfl rfl)⟩
theorem mvX13_readHabits : MV mX13_readHabits 0 := ⟨⟨(tb_8 16 rfl rfl), (tb_1 16 rfl rfl), ⟨by decide, by decide, by decide +kernel⟩, pl_CustomValleyModel, by decide⟩, (tb_8 15 rfl rfl), (tb_0 23 rfl rfl)⟩
theorem fl_CustomValleyModel_101 : FL "CustomValleyModel" 101 13 23 := ⟨RX13, TX13, 92, rfl, by decide, rfl, (tb_6 165 rfl rfl)⟩
theorem fl_CustomValleyModel_89 : FL "CustomValleyModel" 89 13 19 := ⟨RX13, TX13, 92, rfl, by decide, rfl, (tb_6 161 rfl rfl)⟩
theorem mvX13_readPeople : MV mX13_readPeople 0 := ⟨⟨(tb_7 235 rfl rfl), (tb_1 16 rfl rfl), ⟨by decide, by decide, by decide +kernel⟩, pl_CustomValleyModel, by decide⟩, (tb_7 234 rfl rfl), (tb_0 19 rfl rfl)⟩
theorem sl_CustomValleyModel_44 : Cond.methodLink "CustomValleyModel" 44 yJ0_length_8abf5 ∈ TB := (tb_7 230 rfl rfl)
theorem sl_CustomValleyModel_49 : Cond.methodLink "CustomValleyModel" 49 yJ0_charAt_5068e ∈ TB := (tb_7 231 rfl rfl)
theorem mvX13_readKeeps : MV mX13_readKeeps 0 := ⟨⟨(tb_8 45 rfl rfl), (tb_1 16 rfl rfl), ⟨by decide, by decide, by decide +kernel⟩, pl_CustomValleyModel, by decide⟩, (tb_8 44 rfl rfl), (tb_0 28 rfl rfl)⟩
theorem ml_CustomValleyModel_132 : Cond.methodLink "CustomValleyModel" 132 yX13_number ∈ TB := (tb_8 34 rfl rfl)
theorem mvX13_readMeets : MV mX13_readMeets 0 := ⟨⟨(tb_8 41 rfl rfl), (tb_1 16 rfl rfl), ⟨by decide, by decide, by decide +kernel⟩, pl_CustomValleyModel, by decide⟩, (tb_8 40 rfl rfl), (tb_0 27 rfl rfl)⟩
theorem mvX13_readSlip : MV mX13_readSlip 0 := ⟨⟨(tb_8 49 rfl rfl), (tb_1 16 rfl rfl), ⟨by decide, by decide, by decide +kernel⟩, pl_CustomValleyModel, by decide⟩, (tb_8 48 rfl rfl), (tb_0 29 rfl rfl)⟩
theorem mvX13_readWorth : MV mX13_readWorth 0 := ⟨⟨(tb_8 33 rfl rfl), (tb_1 16 rfl rfl), ⟨by decide, by decide, by decide +kernel⟩, pl_CustomValleyModel, by decide⟩, (tb_8 32 rfl rfl), (tb_0 25 rfl rfl)⟩
theorem sl_CustomValley_Reader_99 : Cond.methodLink "CustomValley$Reader" 99 yJ0_length_8abf5 ∈ TB := (tb_3 159 rfl rfl)
theorem sl_CustomValley_Reader_104 : Cond.methodLink "CustomValley$Reader" 104 yJ0_charAt_5068e ∈ TB := (tb_3 169 rfl rfl)
theorem fl_CustomValleyModel_95 : FL "CustomValleyModel" 95 13 21 := ⟨RX13, TX13, 92, rfl, by decide, rfl, (tb_6 163 rfl rfl)⟩
theorem mvX13_readAnswer : MV mX13_readAnswer 0 := ⟨⟨(tb_8 21 rfl rfl), (tb_1 16 rfl rfl), ⟨by decide, by decide, by decide +kernel⟩, pl_CustomValleyModel, by decide⟩, (tb_8 20 rfl rfl), (tb_0 24 rfl rfl)⟩
theorem mvX13_is : MV mX13_is 1 := ⟨⟨(tb_7 229 rfl rfl), (tb_1 16 rfl rfl), ⟨by decide, by decide, by decide +kernel⟩, pl_CustomValleyModel, by decide⟩, (tb_7 228 rfl rfl), (tb_0 18 rfl rfl)⟩
theorem ml_CustomValleyModel_137 : Cond.methodLink "CustomValleyModel" 137 yX13_is ∈ TB := (tb_7 226 rfl rfl)
theorem ml_CustomValleyModel_147 : Cond.methodLink "CustomValleyModel" 147 yX13_readPeople ∈ TB := (tb_7 232 rfl rfl)
theorem mvX13_readClause : MV mX13_readClause 0 := ⟨⟨(tb_7 224 rfl rfl), (tb_1 16 rfl rfl), ⟨by decide, by decide, by decide +kernel⟩, pl_CustomValleyModel, by decide⟩, (tb_7 223 rfl rfl), (tb_0 17 rfl rfl)⟩
theorem ml_CustomValleyModel_151 : Cond.methodLink "CustomValleyModel" 151 yX13_readHabits ∈ TB := (tb_8 13 rfl rfl)
theorem ml_CustomValleyModel_155 : Cond.methodLink "CustomValleyModel" 155 yX13_readAnswer ∈ TB := (tb_8 18 rfl rfl)
theorem ml_CustomValleyModel_174 : Cond.methodLink "CustomValleyModel" 174 yX13_readSlip ∈ TB := (tb_8 46 rfl rfl)
theorem ml_CustomValleyModel_172 : Cond.methodLink "CustomValleyModel" 172 yX13_readKeeps ∈ TB := (tb_8 42 rfl rfl)
theorem ml_CustomValleyModel_170 : Cond.methodLink "CustomValleyModel" 170 yX13_readMeets ∈ TB := (tb_8 38 rfl rfl)
theorem ml_CustomValleyModel_167 : Cond.methodLink "CustomValleyModel" 167 yX13_readWorth ∈ TB := (tb_8 30 rfl rfl)
theorem mvX13_plain : MV mX13_plain 0 := ⟨⟨(tb_6 137 rfl rfl), (tb_1 16 rfl rfl), ⟨by decide, by decide, by decide +kernel⟩, pl_CustomValleyModel, by decide⟩, (tb_6 136 rfl rfl), (tb_0 10 rfl rfl)⟩
theorem ml_CustomValleyModel_176 : Cond.methodLink "CustomValleyModel" 176 yX13_plain ∈ TB := (tb_6 134 rfl rfl)
theorem fl_CustomValleyModel_98 : FL "CustomValleyModel" 98 13 22 := ⟨RX13, TX13, 92, rfl, by decide, rfl, (tb_6 164 rfl rfl)⟩
theorem ml_CustomValleyModel_179 : Cond.methodLink "CustomValleyModel" 179 yX13_readClause ∈ TB := (tb_7 221 rfl rfl)
theorem mvX13_readValley : MV mX13_readValley 0 := ⟨⟨(tb_7 220 rfl rfl), (tb_1 16 rfl rfl), ⟨by decide, by decide, by decide +kernel⟩, pl_CustomValleyModel, by decide⟩, (tb_7 219 rfl rfl), (tb_0 16 rfl rfl)⟩
theorem mvX13_begin : MV mX13_begin 0 := ⟨⟨(tb_7 202 rfl rfl), (tb_1 16 rfl rfl), ⟨by decide, by decide, by decide +kernel⟩, pl_CustomValleyModel, by decide⟩, (tb_7 201 rfl rfl), (tb_0 13 rfl rfl)⟩
theorem ml_CustomValleyModel_322 : Cond.methodLink "CustomValleyModel" 322 yX13_begin ∈ TB := (tb_7 199 rfl rfl)
theorem ml_CustomValleyModel_325 : Cond.methodLink "CustomValleyModel" 325 yX13_readValley ∈ TB := (tb_7 217 rfl rfl)
theorem mvX13_takeValley : MV mX13_takeValley 1 := ⟨⟨(tb_6 141 rfl rfl), (tb_1 16 rfl rfl), ⟨by decide, by decide, by decide +kernel⟩, pl_CustomValleyModel, by decide⟩, (tb_6 140 rfl rfl), (tb_0 11 rfl rfl)⟩
theorem ml_CustomValleyModel_315 : Cond.methodLink "CustomValleyModel" 315 yX13_takeValley ∈ TB := (tb_6 138 rfl rfl)
theorem dX13_need_0 : decode cX13_need 0 = .ok (.iload_n 1, 1) := by decide +kernel
theorem dX13_need_1 : decode cX13_need 1 = .ok (.ifCond .ne 9, 3) := by decide +kernel
theorem dX13_need_4 : decode cX13_need 4 = .ok (.aload_n 0, 1) := by decide +kernel
theorem dX13_need_5 : decode cX13_need 5 = .ok (.iload_n 2, 1) := by decide +kernel
theorem dX13_need_6 : decode cX13_need 6 = .ok (.invokevirtual 53, 3) := by decide +kernel
theorem dX13_need_9 : decode cX13_need 9 = .ok (.athrow, 1) := by decide +kernel
theorem dX13_need_10 : decode cX13_need 10 = .ok (.return_, 1) := by decide +kernel
theorem b_X13_need_0 {x1 : Int} {x2 : Int} {σ : St} {Q : Res → St → Prop} (h : ((x1 ≠ 0) → (Q (.inl none) σ)) ∧ ((x1 = 0) → (WP mX13_wrong 0 [vR 14 0, vI x2] [] σ (CT mX13_need 9 [vU, vU, vU] [] Q)))) : WP mX13_need 0 [vR 14 0, vI x1, vI x2] [] σ Q := by
  refine wp_iload_n dX13_need_0 rfl rfl ?_
  refine wp_if_ne (tgt := 10) dX13_need_1 (by decide) (fun hc => ?_) (fun hc => ?_)
  · replace h := h.1 hc
    exact wp_ret dX13_need_10 rfl h
  · replace h := h.2 hc
    refine wp_aload_n dX13_need_4 rfl rfl ?_
    refine wp_iload_n dX13_need_5 rfl rfl ?_
    refine wp_invV (N := mX13_wrong) [vI x2] dX13_need_6 ml_CustomValleyModel_53 mvX13_wrong rfl rfl rfl rfl rfl (Nat.le_of_ble_eq_true rfl) (Nat.le_of_ble_eq_true rfl) (by decide) (by decide) (by decide) ?_
    exact WP.mono h (ct_drop (lle_c (Or.inr rfl) (lle_c (Or.inr rfl) (lle_c (Or.inr rfl) lle_n))))
theorem b_X13_need_9  {σ : St} {Q : Res → St → Prop} (h : Q (.inr (13, 0)) σ) : WP mX13_need 9 [vU, vU, vU] [vR 13 0] σ Q := by
  exact wp_athrow mvX13_need.1.1 (by decide) dX13_need_9 h
theorem dX13_look_0 : decode cX13_look 0 = .ok (.aload_n 0, 1) := by decide +kernel
theorem dX13_look_1 : decode cX13_look 1 = .ok (.aload_n 0, 1) := by decide +kernel
theorem dX13_look_2 : decode cX13_look 2 = .ok (.getfield 31, 3) := by decide +kernel
theorem dX13_look_5 : decode cX13_look 5 = .ok (.iconst 2, 1) := by decide +kernel
theorem dX13_look_6 : decode cX13_look 6 = .ok (.if_icmp .ne 7, 3) := by decide +kernel
theorem dX13_look_9 : decode cX13_look 9 = .ok (.iconst 1, 1) := by decide +kernel
theorem dX13_look_10 : decode cX13_look 10 = .ok (.goto 4, 3) := by decide +kernel
theorem dX13_look_13 : decode cX13_look 13 = .ok (.iconst 0, 1) := by decide +kernel
theorem dX13_look_14 : decode cX13_look 14 = .ok (.iconst 1, 1) := by decide +kernel
theorem dX13_look_15 : decode cX13_look 15 = .ok (.invokevirtual 57, 3) := by decide +kernel
theorem dX13_look_18 : decode cX13_look 18 = .ok (.aload_n 0, 1) := by decide +kernel
theorem dX13_look_19 : decode cX13_look 19 = .ok (.aload_n 0, 1) := by decide +kernel
theorem dX13_look_20 : decode cX13_look 20 = .ok (.getfield 41, 3) := by decide +kernel
theorem dX13_look_23 : decode cX13_look 23 = .ok (.i2l, 1) := by decide +kernel
theorem dX13_look_24 : decode cX13_look 24 = .ok (.iload_n 1, 1) := by decide +kernel
theorem dX13_look_25 : decode cX13_look 25 = .ok (.i2l, 1) := by decide +kernel
theorem dX13_look_26 : decode cX13_look 26 = .ok (.iload_n 2, 1) := by decide +kernel
theorem dX13_look_27 : decode cX13_look 27 = .ok (.i2l, 1) := by decide +kernel
theorem dX13_look_28 : decode cX13_look 28 = .ok (.invokestatic 61, 3) := by decide +kernel
theorem dX13_look_31 : decode cX13_look 31 = .ok (.iconst 2, 1) := by decide +kernel
theorem dX13_look_32 : decode cX13_look 32 = .ok (.invokevirtual 57, 3) := by decide +kernel
theorem dX13_look_35 : decode cX13_look 35 = .ok (.aload_n 0, 1) := by decide +kernel
theorem dX13_look_36 : decode cX13_look 36 = .ok (.getfield 41, 3) := by decide +kernel
theorem dX13_look_39 : decode cX13_look 39 = .ok (.ireturn, 1) := by decide +kernel
theorem b_X13_look_0 {x1 : Int} {x2 : Int} {σ : St} {Q : Res → St → Prop} (h : (((σ 14 0 6) ≠ 2) → (WP mX13_need 0 [vR 14 0, vI 0, vI 1] [] σ (CTT mX13_look 18 [vR 14 0, vI x1, vI x2] [] Q))) ∧ (((σ 14 0 6) = 2) → (WP mX13_need 0 [vR 14 0, vI 1, vI 1] [] σ (CTT mX13_look 18 [vR 14 0, vI x1, vI x2] [] Q)))) : WP mX13_look 0 [vR 14 0, vI x1, vI x2] [] σ Q := by
  refine wp_aload_n dX13_look_0 rfl rfl ?_
  refine wp_aload_n dX13_look_1 rfl rfl ?_
  refine wp_getI dX13_look_2 fl_CustomValleyModel_31 rfl rfl rfl ?_
  refine wp_iconst dX13_look_5 rfl ?_
  refine wp_icmp_ne (tgt := 13) dX13_look_6 (by decide) (fun hc => ?_) (fun hc => ?_)
  · replace h := h.1 hc
    refine wp_iconst dX13_look_13 rfl ?_
    refine wp_iconst dX13_look_14 rfl ?_
    refine wp_invVT (N := mX13_need) mvX13_look.1.1 [vI 0, vI 1] dX13_look_15 ml_CustomValleyModel_57 mvX13_need rfl rfl rfl rfl rfl (Nat.le_of_ble_eq_true rfl) (Nat.le_of_ble_eq_true rfl) (by decide) (by decide) (by decide) ?_
    exact h
  · replace h := h.2 hc
    refine wp_iconst dX13_look_9 rfl ?_
    refine wp_goto (tgt := 14) dX13_look_10 (by decide) ?_
    refine wp_iconst dX13_look_14 rfl ?_
    refine wp_invVT (N := mX13_need) mvX13_look.1.1 [vI 1, vI 1] dX13_look_15 ml_CustomValleyModel_57 mvX13_need rfl rfl rfl rfl rfl (Nat.le_of_ble_eq_true rfl) (Nat.le_of_ble_eq_true rfl) (by decide) (by decide) (by decide) ?_
    exact h
theorem b_X13_look_18 {x1 : Int} {x2 : Int} {σ : St} {Q : Res → St → Prop} (h : WP mX13_need 0 [vR 14 0, vI (b2 (x1 ≤ (σ 14 0 7) ∧ (σ 14 0 7) ≤ x2)), vI 2] [] σ (CTT mX13_look 35 [vR 14 0, vU, vU] [] Q)) : WP mX13_look 18 [vR 14 0, vI x1, vI x2] [] σ Q := by
  refine wp_aload_n dX13_look_18 rfl rfl ?_
  refine wp_aload_n dX13_look_19 rfl rfl ?_
  refine wp_getI dX13_look_20 fl_CustomValleyModel_41 rfl rfl rfl ?_
  refine wp_i2l dX13_look_23 ?_
  refine wp_iload_n dX13_look_24 rfl rfl ?_
  refine wp_i2l dX13_look_25 ?_
  refine wp_iload_n dX13_look_26 rfl rfl ?_
  refine wp_i2l dX13_look_27 ?_
  refine wp_invS (N := mX13_in) [vL (σ 14 0 7), vL x1, vL x2] dX13_look_28 ml_CustomValleyModel_61 mvX13_in rfl rfl rfl (Nat.le_of_ble_eq_true rfl) (Nat.le_of_ble_eq_true rfl) (by decide) (by decide) ?_
  refine pb_X13_in (by trivial) ?_
  show WP mX13_look 31 [vR 14 0, vI x1, vI x2] [vI (b2 (x1 ≤ (σ 14 0 7) ∧ (σ 14 0 7) ≤ x2)), vR 14 0] σ Q
  refine wp_iconst dX13_look_31 rfl ?_
  refine wp_invVT (N := mX13_need) mvX13_look.1.1 [vI (b2 (x1 ≤ (σ 14 0 7) ∧ (σ 14 0 7) ≤ x2)), vI 2] dX13_look_32 ml_CustomValleyModel_57 mvX13_need rfl rfl rfl rfl rfl (Nat.le_of_ble_eq_true rfl) (Nat.le_of_ble_eq_true rfl) (by decide) (by decide) (by decide) ?_
  exact WP.mono h (ctt_drop (lle_c (Or.inl rfl) (lle_c (Or.inr rfl) (lle_c (Or.inr rfl) lle_n))))
theorem b_X13_look_35  {σ : St} {Q : Res → St → Prop} (h : Q (.inl (some (vI (σ 14 0 7)))) σ) : WP mX13_look 35 [vR 14 0, vU, vU] [] σ Q := by
  refine wp_aload_n dX13_look_35 rfl rfl ?_
  refine wp_getI dX13_look_36 fl_CustomValleyModel_41 rfl rfl rfl ?_
  exact wp_iret dX13_look_39 rfl h
theorem dX13_number_0 : decode cX13_number 0 = .ok (.aload_n 0, 1) := by decide +kernel
theorem dX13_number_1 : decode cX13_number 1 = .ok (.iload_n 1, 1) := by decide +kernel
theorem dX13_number_2 : decode cX13_number 2 = .ok (.iload_n 2, 1) := by decide +kernel
theorem dX13_number_3 : decode cX13_number 3 = .ok (.invokevirtual 65, 3) := by decide +kernel
theorem dX13_number_6 : decode cX13_number 6 = .ok (.istore_n 3, 1) := by decide +kernel
theorem dX13_number_7 : decode cX13_number 7 = .ok (.aload_n 0, 1) := by decide +kernel
theorem dX13_number_8 : decode cX13_number 8 = .ok (.invokevirtual 69, 3) := by decide +kernel
theorem dX13_number_11 : decode cX13_number 11 = .ok (.iload_n 3, 1) := by decide +kernel
theorem dX13_number_12 : decode cX13_number 12 = .ok (.ireturn, 1) := by decide +kernel
theorem b_X13_number_0 {x1 : Int} {x2 : Int} {σ : St} {Q : Res → St → Prop} (h : WP mX13_look 0 [vR 14 0, vI x1, vI x2] [] σ (CTT mX13_number 6 [vR 14 0, vU, vU, vU] [] Q)) : WP mX13_number 0 [vR 14 0, vI x1, vI x2, vU] [] σ Q := by
  refine wp_aload_n dX13_number_0 rfl rfl ?_
  refine wp_iload_n dX13_number_1 rfl rfl ?_
  refine wp_iload_n dX13_number_2 rfl rfl ?_
  refine wp_invVT (N := mX13_look) mvX13_number.1.1 [vI x1, vI x2] dX13_number_3 ml_CustomValleyModel_65 mvX13_look rfl rfl rfl rfl rfl (Nat.le_of_ble_eq_true rfl) (Nat.le_of_ble_eq_true rfl) (by decide) (by decide) (by decide) ?_
  exact WP.mono h (ctt_drop (lle_c (Or.inl rfl) (lle_c (Or.inr rfl) (lle_c (Or.inr rfl) (lle_c (Or.inl rfl) lle_n)))))
theorem b_X13_number_6 {t0 : Int} {σ : St} {Q : Res → St → Prop} (h : WP mX13_scan 0 [vR 14 0, vU] [] σ (CT mX13_number 11 [vU, vU, vU, vI t0] [] Q)) : WP mX13_number 6 [vR 14 0, vU, vU, vU] [vI t0] σ Q := by
  refine wp_istore_n dX13_number_6 rfl (by decide) rfl rfl ?_
  refine wp_aload_n dX13_number_7 rfl rfl ?_
  refine wp_invV (N := mX13_scan) [] dX13_number_8 ml_CustomValleyModel_69 mvX13_scan rfl rfl rfl rfl rfl (Nat.le_of_ble_eq_true rfl) (Nat.le_of_ble_eq_true rfl) (by decide) (by decide) (by decide) ?_
  exact WP.mono h (ct_drop (lle_c (Or.inr rfl) (lle_c (Or.inl rfl) (lle_c (Or.inl rfl) (lle_c (Or.inl rfl) lle_n)))))
theorem b_X13_number_11 {x3 : Int} {σ : St} {Q : Res → St → Prop} (h : Q (.inl (some (vI x3))) σ) : WP mX13_number 11 [vU, vU, vU, vI x3] [] σ Q := by
  refine wp_iload_n dX13_number_11 rfl rfl ?_
  exact wp_iret dX13_number_12 rfl h
theorem dX13_readHabits_0 : decode cX13_readHabits 0 = .ok (.aload_n 0, 1) := by decide +kernel
theorem dX13_readHabits_1 : decode cX13_readHabits 1 = .ok (.aload_n 0, 1) := by decide +kernel
theorem dX13_readHabits_2 : decode cX13_readHabits 2 = .ok (.getfield 92, 3) := by decide +kernel
theorem dX13_readHabits_5 : decode cX13_readHabits 5 = .ok (.ifCond .ne 7, 3) := by decide +kernel
theorem dX13_readHabits_8 : decode cX13_readHabits 8 = .ok (.iconst 1, 1) := by decide +kernel
theorem dX13_readHabits_9 : decode cX13_readHabits 9 = .ok (.goto 4, 3) := by decide +kernel
theorem dX13_readHabits_12 : decode cX13_readHabits 12 = .ok (.iconst 0, 1) := by decide +kernel
theorem dX13_readHabits_13 : decode cX13_readHabits 13 = .ok (.iconst 3, 1) := by decide +kernel
theorem dX13_readHabits_14 : decode cX13_readHabits 14 = .ok (.invokevirtual 57, 3) := by decide +kernel
theorem dX13_readHabits_17 : decode cX13_readHabits 17 = .ok (.aload_n 0, 1) := by decide +kernel
theorem dX13_readHabits_18 : decode cX13_readHabits 18 = .ok (.aload_n 0, 1) := by decide +kernel
theorem dX13_readHabits_19 : decode cX13_readHabits 19 = .ok (.getfield 101, 3) := by decide +kernel
theorem dX13_readHabits_22 : decode cX13_readHabits 22 = .ok (.ifCond .ne 7, 3) := by decide +kernel
theorem dX13_readHabits_25 : decode cX13_readHabits 25 = .ok (.iconst 1, 1) := by decide +kernel
theorem dX13_readHabits_26 : decode cX13_readHabits 26 = .ok (.goto 4, 3) := by decide +kernel
theorem dX13_readHabits_29 : decode cX13_readHabits 29 = .ok (.iconst 0, 1) := by decide +kernel
theorem dX13_readHabits_30 : decode cX13_readHabits 30 = .ok (.iconst 4, 1) := by decide +kernel
theorem dX13_readHabits_31 : decode cX13_readHabits 31 = .ok (.invokevirtual 57, 3) := by decide +kernel
theorem dX13_readHabits_34 : decode cX13_readHabits 34 = .ok (.aload_n 0, 1) := by decide +kernel
theorem dX13_readHabits_35 : decode cX13_readHabits 35 = .ok (.invokevirtual 69, 3) := by decide +kernel
theorem dX13_readHabits_38 : decode cX13_readHabits 38 = .ok (.aload_n 0, 1) := by decide +kernel
theorem dX13_readHabits_39 : decode cX13_readHabits 39 = .ok (.iconst 2, 1) := by decide +kernel
theorem dX13_readHabits_40 : decode cX13_readHabits 40 = .ok (.iconst 4, 1) := by decide +kernel
theorem dX13_readHabits_41 : decode cX13_readHabits 41 = .ok (.invokevirtual 65, 3) := by decide +kernel
theorem dX13_readHabits_44 : decode cX13_readHabits 44 = .ok (.istore_n 1, 1) := by decide +kernel
theorem dX13_readHabits_45 : decode cX13_readHabits 45 = .ok (.aload_n 0, 1) := by decide +kernel
theorem dX13_readHabits_46 : decode cX13_readHabits 46 = .ok (.iload_n 1, 1) := by decide +kernel
theorem dX13_readHabits_47 : decode cX13_readHabits 47 = .ok (.aload_n 0, 1) := by decide +kernel
theorem dX13_readHabits_48 : decode cX13_readHabits 48 = .ok (.getfield 76, 3) := by decide +kernel
theorem dX13_readHabits_51 : decode cX13_readHabits 51 = .ok (.invokestatic 129, 3) := by decide +kernel
theorem dX13_readHabits_54 : decode cX13_readHabits 54 = .ok (.sipush 1024, 3) := by decide +kernel
theorem dX13_readHabits_57 : decode cX13_readHabits 57 = .ok (.if_icmp .gt 7, 3) := by decide +kernel
theorem dX13_readHabits_60 : decode cX13_readHabits 60 = .ok (.iconst 1, 1) := by decide +kernel
theorem dX13_readHabits_61 : decode cX13_readHabits 61 = .ok (.goto 4, 3) := by decide +kernel
theorem dX13_readHabits_64 : decode cX13_readHabits 64 = .ok (.iconst 0, 1) := by decide +kernel
theorem dX13_readHabits_65 : decode cX13_readHabits 65 = .ok (.iconst 2, 1) := by decide +kernel
theorem dX13_readHabits_66 : decode cX13_readHabits 66 = .ok (.invokevirtual 57, 3) := by decide +kernel
theorem dX13_readHabits_69 : decode cX13_readHabits 69 = .ok (.aload_n 0, 1) := by decide +kernel
theorem dX13_readHabits_70 : decode cX13_readHabits 70 = .ok (.invokevirtual 69, 3) := by decide +kernel
theorem dX13_readHabits_73 : decode cX13_readHabits 73 = .ok (.aload_n 0, 1) := by decide +kernel
theorem dX13_readHabits_74 : decode cX13_readHabits 74 = .ok (.iload_n 1, 1) := by decide +kernel
theorem dX13_readHabits_75 : decode cX13_readHabits 75 = .ok (.putfield 79, 3) := by decide +kernel
theorem dX13_readHabits_78 : decode cX13_readHabits 78 = .ok (.aload_n 0, 1) := by decide +kernel
theorem dX13_readHabits_79 : decode cX13_readHabits 79 = .ok (.iconst 1, 1) := by decide +kernel
theorem dX13_readHabits_80 : decode cX13_readHabits 80 = .ok (.putfield 92, 3) := by decide +kernel
theorem dX13_readHabits_83 : decode cX13_readHabits 83 = .ok (.return_, 1) := by decide +kernel
theorem b_X13_readHabits_0  {σ : St} {Q : Res → St → Prop} (h : (((σ 14 0 20) ≠ 0) → (WP mX13_need 0 [vR 14 0, vI 0, vI 3] [] σ (CTT mX13_readHabits 17 [vR 14 0, vU] [] Q))) ∧ (((σ 14 0 20) = 0) → (WP mX13_need 0 [vR 14 0, vI 1, vI 3] [] σ (CTT mX13_readHabits 17 [vR 14 0, vU] [] Q)))) : WP mX13_readHabits 0 [vR 14 0, vU] [] σ Q := by
  refine wp_aload_n dX13_readHabits_0 rfl rfl ?_
  refine wp_aload_n dX13_readHabits_1 rfl rfl ?_
  refine wp_getI dX13_readHabits_2 fl_CustomValleyModel_92 rfl rfl rfl ?_
  refine wp_if_ne (tgt := 12) dX13_readHabits_5 (by decide) (fun hc => ?_) (fun hc => ?_)
  · replace h := h.1 hc
    refine wp_iconst dX13_readHabits_12 rfl ?_
    refine wp_iconst dX13_readHabits_13 rfl ?_
    refine wp_invVT (N := mX13_need) mvX13_readHabits.1.1 [vI 0, vI 3] dX13_readHabits_14 ml_CustomValleyModel_57 mvX13_need rfl rfl rfl rfl rfl (Nat.le_of_ble_eq_true rfl) (Nat.le_of_ble_eq_true rfl) (by decide) (by decide) (by decide) ?_
    exact h
  · replace h := h.2 hc
    refine wp_iconst dX13_readHabits_8 rfl ?_
    refine wp_goto (tgt := 13) dX13_readHabits_9 (by decide) ?_
    refine wp_iconst dX13_readHabits_13 rfl ?_
    refine wp_invVT (N := mX13_need) mvX13_readHabits.1.1 [vI 1, vI 3] dX13_readHabits_14 ml_CustomValleyModel_57 mvX13_need rfl rfl rfl rfl rfl (Nat.le_of_ble_eq_true rfl) (Nat.le_of_ble_eq_true rfl) (by decide) (by decide) (by decide) ?_
    exact h
theorem b_X13_readHabits_17  {σ : St} {Q : Res → St → Prop} (h : (((σ 14 0 23) ≠ 0) → (WP mX13_need 0 [vR 14 0, vI 0, vI 4] [] σ (CTT mX13_readHabits 34 [vR 14 0, vU] [] Q))) ∧ (((σ 14 0 23) = 0) → (WP mX13_need 0 [vR 14 0, vI 1, vI 4] [] σ (CTT mX13_readHabits 34 [vR 14 0, vU] [] Q)))) : WP mX13_readHabits 17 [vR 14 0, vU] [] σ Q := by
  refine wp_aload_n dX13_readHabits_17 rfl rfl ?_
  refine wp_aload_n dX13_readHabits_18 rfl rfl ?_
  refine wp_getI dX13_readHabits_19 fl_CustomValleyModel_101 rfl rfl rfl ?_
  refine wp_if_ne (tgt := 29) dX13_readHabits_22 (by decide) (fun hc => ?_) (fun hc => ?_)
  · replace h := h.1 hc
    refine wp_iconst dX13_readHabits_29 rfl ?_
    refine wp_iconst dX13_readHabits_30 rfl ?_
    refine wp_invVT (N := mX13_need) mvX13_readHabits.1.1 [vI 0, vI 4] dX13_readHabits_31 ml_CustomValleyModel_57 mvX13_need rfl rfl rfl rfl rfl (Nat.le_of_ble_eq_true rfl) (Nat.le_of_ble_eq_true rfl) (by decide) (by decide) (by decide) ?_
    exact h
  · replace h := h.2 hc
    refine wp_iconst dX13_readHabits_25 rfl ?_
    refine wp_goto (tgt := 30) dX13_readHabits_26 (by decide) ?_
    refine wp_iconst dX13_readHabits_30 rfl ?_
    refine wp_invVT (N := mX13_need) mvX13_readHabits.1.1 [vI 1, vI 4] dX13_readHabits_31 ml_CustomValleyModel_57 mvX13_need rfl rfl rfl rfl rfl (Nat.le_of_ble_eq_true rfl) (Nat.le_of_ble_eq_true rfl) (by decide) (by decide) (by decide) ?_
    exact h
theorem b_X13_readHabits_34  {σ : St} {Q : Res → St → Prop} (h : WP mX13_scan 0 [vR 14 0, vU] [] σ (CT mX13_readHabits 38 [vR 14 0, vU] [] Q)) : WP mX13_readHabits 34 [vR 14 0, vU] [] σ Q := by
  refine wp_aload_n dX13_readHabits_34 rfl rfl ?_
  refine wp_invV (N := mX13_scan) [] dX13_readHabits_35 ml_CustomValleyModel_69 mvX13_scan rfl rfl rfl rfl rfl (Nat.le_of_ble_eq_true rfl) (Nat.le_of_ble_eq_true rfl) (by decide) (by decide) (by decide) ?_
  exact h
theorem b_X13_readHabits_38  {σ : St} {Q : Res → St → Prop} (h : WP mX13_look 0 [vR 14 0, vI 2, vI 4] [] σ (CTT mX13_readHabits 44 [vR 14 0, vU] [] Q)) : WP mX13_readHabits 38 [vR 14 0, vU] [] σ Q := by
  refine wp_aload_n dX13_readHabits_38 rfl rfl ?_
  refine wp_iconst dX13_readHabits_39 rfl ?_
  refine wp_iconst dX13_readHabits_40 rfl ?_
  refine wp_invVT (N := mX13_look) mvX13_readHabits.1.1 [vI 2, vI 4] dX13_readHabits_41 ml_CustomValleyModel_65 mvX13_look rfl rfl rfl rfl rfl (Nat.le_of_ble_eq_true rfl) (Nat.le_of_ble_eq_true rfl) (by decide) (by decide) (by decide) ?_
  exact h
theorem b_X13_readHabits_44 {t0 : Int} {σ : St} {Q : Res → St → Prop} (h : WP mX13_power 0 [vI t0, vI (σ 14 0 14), vU, vU] [] σ (CT mX13_readHabits 54 [vR 14 0, vI t0] [vR 14 0] Q)) : WP mX13_readHabits 44 [vR 14 0, vU] [vI t0] σ Q := by
  refine wp_istore_n dX13_readHabits_44 rfl (by decide) rfl rfl ?_
  refine wp_aload_n dX13_readHabits_45 rfl rfl ?_
  refine wp_iload_n dX13_readHabits_46 rfl rfl ?_
  refine wp_aload_n dX13_readHabits_47 rfl rfl ?_
  refine wp_getI dX13_readHabits_48 fl_CustomValleyModel_76 rfl rfl rfl ?_
  refine wp_invS (N := mX13_power) [vI t0, vI (σ 14 0 14)] dX13_readHabits_51 ml_CustomValleyModel_129 mvX13_power rfl rfl rfl (Nat.le_of_ble_eq_true rfl) (Nat.le_of_ble_eq_true rfl) (by decide) (by decide) ?_
  exact h
theorem b_X13_readHabits_54 {x1 : Int} {t0 : Int} {σ : St} {Q : Res → St → Prop} (h : ((1024 < t0) → (WP mX13_need 0 [vR 14 0, vI 0, vI 2] [] σ (CTT mX13_readHabits 69 [vR 14 0, vI x1] [] Q))) ∧ ((t0 ≤ 1024) → (WP mX13_need 0 [vR 14 0, vI 1, vI 2] [] σ (CTT mX13_readHabits 69 [vR 14 0, vI x1] [] Q)))) : WP mX13_readHabits 54 [vR 14 0, vI x1] [vI t0, vR 14 0] σ Q := by
  refine wp_sipush dX13_readHabits_54 rfl ?_
  refine wp_icmp_gt (tgt := 64) dX13_readHabits_57 (by decide) (fun hc => ?_) (fun hc => ?_)
  · replace h := h.1 hc
    refine wp_iconst dX13_readHabits_64 rfl ?_
    refine wp_iconst dX13_readHabits_65 rfl ?_
    refine wp_invVT (N := mX13_need) mvX13_readHabits.1.1 [vI 0, vI 2] dX13_readHabits_66 ml_CustomValleyModel_57 mvX13_need rfl rfl rfl rfl rfl (Nat.le_of_ble_eq_true rfl) (Nat.le_of_ble_eq_true rfl) (by decide) (by decide) (by decide) ?_
    exact h
  · replace h := h.2 hc
    refine wp_iconst dX13_readHabits_60 rfl ?_
    refine wp_goto (tgt := 65) dX13_readHabits_61 (by decide) ?_
    refine wp_iconst dX13_readHabits_65 rfl ?_
    refine wp_invVT (N := mX13_need) mvX13_readHabits.1.1 [vI 1, vI 2] dX13_readHabits_66 ml_CustomValleyModel_57 mvX13_need rfl rfl rfl rfl rfl (Nat.le_of_ble_eq_true rfl) (Nat.le_of_ble_eq_true rfl) (by decide) (by decide) (by decide) ?_
    exact h
theorem b_X13_readHabits_69 {x1 : Int} {σ : St} {Q : Res → St → Prop} (h : WP mX13_scan 0 [vR 14 0, vU] [] σ (CT mX13_readHabits 73 [vR 14 0, vI x1] [] Q)) : WP mX13_readHabits 69 [vR 14 0, vI x1] [] σ Q := by
  refine wp_aload_n dX13_readHabits_69 rfl rfl ?_
  refine wp_invV (N := mX13_scan) [] dX13_readHabits_70 ml_CustomValleyModel_69 mvX13_scan rfl rfl rfl rfl rfl (Nat.le_of_ble_eq_true rfl) (Nat.le_of_ble_eq_true rfl) (by decide) (by decide) (by decide) ?_
  exact h
theorem b_X13_readHabits_73 {x1 : Int} {σ : St} {Q : Res → St → Prop} (h : Q (.inl none) (up (up σ 14 0 15 x1) 14 0 20 1)) : WP mX13_readHabits 73 [vR 14 0, vI x1] [] σ Q := by
  refine wp_aload_n dX13_readHabits_73 rfl rfl ?_
  refine wp_iload_n dX13_readHabits_74 rfl rfl ?_
  refine wp_putI dX13_readHabits_75 fp_CustomValleyModel_79 rfl rfl rfl ?_
  refine wp_aload_n dX13_readHabits_78 rfl rfl ?_
  refine wp_iconst dX13_readHabits_79 rfl ?_
  refine wp_putZ dX13_readHabits_80 fp_CustomValleyModel_92 rfl rfl rfl (by decide) ?_
  exact wp_ret dX13_readHabits_83 rfl h
theorem dX13_readPeople_0 : decode cX13_readPeople 0 = .ok (.aload_n 0, 1) := by decide +kernel
theorem dX13_readPeople_1 : decode cX13_readPeople 1 = .ok (.aload_n 0, 1) := by decide +kernel
theorem dX13_readPeople_2 : decode cX13_readPeople 2 = .ok (.getfield 89, 3) := by decide +kernel
theorem dX13_readPeople_5 : decode cX13_readPeople 5 = .ok (.ifCond .ne 7, 3) := by decide +kernel
theorem dX13_readPeople_8 : decode cX13_readPeople 8 = .ok (.iconst 1, 1) := by decide +kernel
theorem dX13_readPeople_9 : decode cX13_readPeople 9 = .ok (.goto 4, 3) := by decide +kernel
theorem dX13_readPeople_12 : decode cX13_readPeople 12 = .ok (.iconst 0, 1) := by decide +kernel
theorem dX13_readPeople_13 : decode cX13_readPeople 13 = .ok (.iconst 3, 1) := by decide +kernel
theorem dX13_readPeople_14 : decode cX13_readPeople 14 = .ok (.invokevirtual 57, 3) := by decide +kernel
theorem dX13_readPeople_17 : decode cX13_readPeople 17 = .ok (.aload_n 0, 1) := by decide +kernel
theorem dX13_readPeople_18 : decode cX13_readPeople 18 = .ok (.aload_n 0, 1) := by decide +kernel
theorem dX13_readPeople_19 : decode cX13_readPeople 19 = .ok (.getfield 101, 3) := by decide +kernel
theorem dX13_readPeople_22 : decode cX13_readPeople 22 = .ok (.ifCond .ne 7, 3) := by decide +kernel
theorem dX13_readPeople_25 : decode cX13_readPeople 25 = .ok (.iconst 1, 1) := by decide +kernel
theorem dX13_readPeople_26 : decode cX13_readPeople 26 = .ok (.goto 4, 3) := by decide +kernel
theorem dX13_readPeople_29 : decode cX13_readPeople 29 = .ok (.iconst 0, 1) := by decide +kernel
theorem dX13_readPeople_30 : decode cX13_readPeople 30 = .ok (.iconst 4, 1) := by decide +kernel
theorem dX13_readPeople_31 : decode cX13_readPeople 31 = .ok (.invokevirtual 57, 3) := by decide +kernel
theorem dX13_readPeople_34 : decode cX13_readPeople 34 = .ok (.aload_n 0, 1) := by decide +kernel
theorem dX13_readPeople_35 : decode cX13_readPeople 35 = .ok (.invokevirtual 69, 3) := by decide +kernel
theorem dX13_readPeople_38 : decode cX13_readPeople 38 = .ok (.aload_n 0, 1) := by decide +kernel
theorem dX13_readPeople_39 : decode cX13_readPeople 39 = .ok (.iconst 2, 1) := by decide +kernel
theorem dX13_readPeople_40 : decode cX13_readPeople 40 = .ok (.bipush 10, 2) := by decide +kernel
theorem dX13_readPeople_42 : decode cX13_readPeople 42 = .ok (.invokevirtual 65, 3) := by decide +kernel
theorem dX13_readPeople_45 : decode cX13_readPeople 45 = .ok (.istore_n 1, 1) := by decide +kernel
theorem dX13_readPeople_46 : decode cX13_readPeople 46 = .ok (.aload_n 0, 1) := by decide +kernel
theorem dX13_readPeople_47 : decode cX13_readPeople 47 = .ok (.aload_n 0, 1) := by decide +kernel
theorem dX13_readPeople_48 : decode cX13_readPeople 48 = .ok (.getfield 79, 3) := by decide +kernel
theorem dX13_readPeople_51 : decode cX13_readPeople 51 = .ok (.iload_n 1, 1) := by decide +kernel
theorem dX13_readPeople_52 : decode cX13_readPeople 52 = .ok (.invokestatic 129, 3) := by decide +kernel
theorem dX13_readPeople_55 : decode cX13_readPeople 55 = .ok (.sipush 1024, 3) := by decide +kernel
theorem dX13_readPeople_58 : decode cX13_readPeople 58 = .ok (.if_icmp .gt 7, 3) := by decide +kernel
theorem dX13_readPeople_61 : decode cX13_readPeople 61 = .ok (.iconst 1, 1) := by decide +kernel
theorem dX13_readPeople_62 : decode cX13_readPeople 62 = .ok (.goto 4, 3) := by decide +kernel
theorem dX13_readPeople_65 : decode cX13_readPeople 65 = .ok (.iconst 0, 1) := by decide +kernel
theorem dX13_readPeople_66 : decode cX13_readPeople 66 = .ok (.iconst 2, 1) := by decide +kernel
theorem dX13_readPeople_67 : decode cX13_readPeople 67 = .ok (.invokevirtual 57, 3) := by decide +kernel
theorem dX13_readPeople_70 : decode cX13_readPeople 70 = .ok (.aload_n 0, 1) := by decide +kernel
theorem dX13_readPeople_71 : decode cX13_readPeople 71 = .ok (.invokevirtual 69, 3) := by decide +kernel
theorem dX13_readPeople_74 : decode cX13_readPeople 74 = .ok (.aload_n 0, 1) := by decide +kernel
theorem dX13_readPeople_75 : decode cX13_readPeople 75 = .ok (.iload_n 1, 1) := by decide +kernel
theorem dX13_readPeople_76 : decode cX13_readPeople 76 = .ok (.putfield 76, 3) := by decide +kernel
theorem dX13_readPeople_79 : decode cX13_readPeople 79 = .ok (.aload_n 0, 1) := by decide +kernel
theorem dX13_readPeople_80 : decode cX13_readPeople 80 = .ok (.iconst 1, 1) := by decide +kernel
theorem dX13_readPeople_81 : decode cX13_readPeople 81 = .ok (.putfield 89, 3) := by decide +kernel
theorem dX13_readPeople_84 : decode cX13_readPeople 84 = .ok (.return_, 1) := by decide +kernel
theorem b_X13_readPeople_0  {σ : St} {Q : Res → St → Prop} (h : (((σ 14 0 19) ≠ 0) → (WP mX13_need 0 [vR 14 0, vI 0, vI 3] [] σ (CTT mX13_readPeople 17 [vR 14 0, vU] [] Q))) ∧ (((σ 14 0 19) = 0) → (WP mX13_need 0 [vR 14 0, vI 1, vI 3] [] σ (CTT mX13_readPeople 17 [vR 14 0, vU] [] Q)))) : WP mX13_readPeople 0 [vR 14 0, vU] [] σ Q := by
  refine wp_aload_n dX13_readPeople_0 rfl rfl ?_
  refine wp_aload_n dX13_readPeople_1 rfl rfl ?_
  refine wp_getI dX13_readPeople_2 fl_CustomValleyModel_89 rfl rfl rfl ?_
  refine wp_if_ne (tgt := 12) dX13_readPeople_5 (by decide) (fun hc => ?_) (fun hc => ?_)
  · replace h := h.1 hc
    refine wp_iconst dX13_readPeople_12 rfl ?_
    refine wp_iconst dX13_readPeople_13 rfl ?_
    refine wp_invVT (N := mX13_need) mvX13_readPeople.1.1 [vI 0, vI 3] dX13_readPeople_14 ml_CustomValleyModel_57 mvX13_need rfl rfl rfl rfl rfl (Nat.le_of_ble_eq_true rfl) (Nat.le_of_ble_eq_true rfl) (by decide) (by decide) (by decide) ?_
    exact h
  · replace h := h.2 hc
    refine wp_iconst dX13_readPeople_8 rfl ?_
    refine wp_goto (tgt := 13) dX13_readPeople_9 (by decide) ?_
    refine wp_iconst dX13_readPeople_13 rfl ?_
    refine wp_invVT (N := mX13_need) mvX13_readPeople.1.1 [vI 1, vI 3] dX13_readPeople_14 ml_CustomValleyModel_57 mvX13_need rfl rfl rfl rfl rfl (Nat.le_of_ble_eq_true rfl) (Nat.le_of_ble_eq_true rfl) (by decide) (by decide) (by decide) ?_
    exact h
theorem b_X13_readPeople_17  {σ : St} {Q : Res → St → Prop} (h : (((σ 14 0 23) ≠ 0) → (WP mX13_need 0 [vR 14 0, vI 0, vI 4] [] σ (CTT mX13_readPeople 34 [vR 14 0, vU] [] Q))) ∧ (((σ 14 0 23) = 0) → (WP mX13_need 0 [vR 14 0, vI 1, vI 4] [] σ (CTT mX13_readPeople 34 [vR 14 0, vU] [] Q)))) : WP mX13_readPeople 17 [vR 14 0, vU] [] σ Q := by
  refine wp_aload_n dX13_readPeople_17 rfl rfl ?_
  refine wp_aload_n dX13_readPeople_18 rfl rfl ?_
  refine wp_getI dX13_readPeople_19 fl_CustomValleyModel_101 rfl rfl rfl ?_
  refine wp_if_ne (tgt := 29) dX13_readPeople_22 (by decide) (fun hc => ?_) (fun hc => ?_)
  · replace h := h.1 hc
    refine wp_iconst dX13_readPeople_29 rfl ?_
    refine wp_iconst dX13_readPeople_30 rfl ?_
    refine wp_invVT (N := mX13_need) mvX13_readPeople.1.1 [vI 0, vI 4] dX13_readPeople_31 ml_CustomValleyModel_57 mvX13_need rfl rfl rfl rfl rfl (Nat.le_of_ble_eq_true rfl) (Nat.le_of_ble_eq_true rfl) (by decide) (by decide) (by decide) ?_
    exact h
  · replace h := h.2 hc
    refine wp_iconst dX13_readPeople_25 rfl ?_
    refine wp_goto (tgt := 30) dX13_readPeople_26 (by decide) ?_
    refine wp_iconst dX13_readPeople_30 rfl ?_
    refine wp_invVT (N := mX13_need) mvX13_readPeople.1.1 [vI 1, vI 4] dX13_readPeople_31 ml_CustomValleyModel_57 mvX13_need rfl rfl rfl rfl rfl (Nat.le_of_ble_eq_true rfl) (Nat.le_of_ble_eq_true rfl) (by decide) (by decide) (by decide) ?_
    exact h
theorem b_X13_readPeople_34  {σ : St} {Q : Res → St → Prop} (h : WP mX13_scan 0 [vR 14 0, vU] [] σ (CT mX13_readPeople 38 [vR 14 0, vU] [] Q)) : WP mX13_readPeople 34 [vR 14 0, vU] [] σ Q := by
  refine wp_aload_n dX13_readPeople_34 rfl rfl ?_
  refine wp_invV (N := mX13_scan) [] dX13_readPeople_35 ml_CustomValleyModel_69 mvX13_scan rfl rfl rfl rfl rfl (Nat.le_of_ble_eq_true rfl) (Nat.le_of_ble_eq_true rfl) (by decide) (by decide) (by decide) ?_
  exact h
theorem b_X13_readPeople_38  {σ : St} {Q : Res → St → Prop} (h : WP mX13_look 0 [vR 14 0, vI 2, vI 10] [] σ (CTT mX13_readPeople 45 [vR 14 0, vU] [] Q)) : WP mX13_readPeople 38 [vR 14 0, vU] [] σ Q := by
  refine wp_aload_n dX13_readPeople_38 rfl rfl ?_
  refine wp_iconst dX13_readPeople_39 rfl ?_
  refine wp_bipush dX13_readPeople_40 rfl ?_
  refine wp_invVT (N := mX13_look) mvX13_readPeople.1.1 [vI 2, vI 10] dX13_readPeople_42 ml_CustomValleyModel_65 mvX13_look rfl rfl rfl rfl rfl (Nat.le_of_ble_eq_true rfl) (Nat.le_of_ble_eq_true rfl) (by decide) (by decide) (by decide) ?_
  exact h
theorem b_X13_readPeople_45 {t0 : Int} {σ : St} {Q : Res → St → Prop} (h : WP mX13_power 0 [vI (σ 14 0 15), vI t0, vU, vU] [] σ (CT mX13_readPeople 55 [vR 14 0, vI t0] [vR 14 0] Q)) : WP mX13_readPeople 45 [vR 14 0, vU] [vI t0] σ Q := by
  refine wp_istore_n dX13_readPeople_45 rfl (by decide) rfl rfl ?_
  refine wp_aload_n dX13_readPeople_46 rfl rfl ?_
  refine wp_aload_n dX13_readPeople_47 rfl rfl ?_
  refine wp_getI dX13_readPeople_48 fl_CustomValleyModel_79 rfl rfl rfl ?_
  refine wp_iload_n dX13_readPeople_51 rfl rfl ?_
  refine wp_invS (N := mX13_power) [vI (σ 14 0 15), vI t0] dX13_readPeople_52 ml_CustomValleyModel_129 mvX13_power rfl rfl rfl (Nat.le_of_ble_eq_true rfl) (Nat.le_of_ble_eq_true rfl) (by decide) (by decide) ?_
  exact h
theorem b_X13_readPeople_55 {x1 : Int} {t0 : Int} {σ : St} {Q : Res → St → Prop} (h : ((1024 < t0) → (WP mX13_need 0 [vR 14 0, vI 0, vI 2] [] σ (CTT mX13_readPeople 70 [vR 14 0, vI x1] [] Q))) ∧ ((t0 ≤ 1024) → (WP mX13_need 0 [vR 14 0, vI 1, vI 2] [] σ (CTT mX13_readPeople 70 [vR 14 0, vI x1] [] Q)))) : WP mX13_readPeople 55 [vR 14 0, vI x1] [vI t0, vR 14 0] σ Q := by
  refine wp_sipush dX13_readPeople_55 rfl ?_
  refine wp_icmp_gt (tgt := 65) dX13_readPeople_58 (by decide) (fun hc => ?_) (fun hc => ?_)
  · replace h := h.1 hc
    refine wp_iconst dX13_readPeople_65 rfl ?_
    refine wp_iconst dX13_readPeople_66 rfl ?_
    refine wp_invVT (N := mX13_need) mvX13_readPeople.1.1 [vI 0, vI 2] dX13_readPeople_67 ml_CustomValleyModel_57 mvX13_need rfl rfl rfl rfl rfl (Nat.le_of_ble_eq_true rfl) (Nat.le_of_ble_eq_true rfl) (by decide) (by decide) (by decide) ?_
    exact h
  · replace h := h.2 hc
    refine wp_iconst dX13_readPeople_61 rfl ?_
    refine wp_goto (tgt := 66) dX13_readPeople_62 (by decide) ?_
    refine wp_iconst dX13_readPeople_66 rfl ?_
    refine wp_invVT (N := mX13_need) mvX13_readPeople.1.1 [vI 1, vI 2] dX13_readPeople_67 ml_CustomValleyModel_57 mvX13_need rfl rfl rfl rfl rfl (Nat.le_of_ble_eq_true rfl) (Nat.le_of_ble_eq_true rfl) (by decide) (by decide) (by decide) ?_
    exact h
theorem b_X13_readPeople_70 {x1 : Int} {σ : St} {Q : Res → St → Prop} (h : WP mX13_scan 0 [vR 14 0, vU] [] σ (CT mX13_readPeople 74 [vR 14 0, vI x1] [] Q)) : WP mX13_readPeople 70 [vR 14 0, vI x1] [] σ Q := by
  refine wp_aload_n dX13_readPeople_70 rfl rfl ?_
  refine wp_invV (N := mX13_scan) [] dX13_readPeople_71 ml_CustomValleyModel_69 mvX13_scan rfl rfl rfl rfl rfl (Nat.le_of_ble_eq_true rfl) (Nat.le_of_ble_eq_true rfl) (by decide) (by decide) (by decide) ?_
  exact h
theorem b_X13_readPeople_74 {x1 : Int} {σ : St} {Q : Res → St → Prop} (h : Q (.inl none) (up (up σ 14 0 14 x1) 14 0 19 1)) : WP mX13_readPeople 74 [vR 14 0, vI x1] [] σ Q := by
  refine wp_aload_n dX13_readPeople_74 rfl rfl ?_
  refine wp_iload_n dX13_readPeople_75 rfl rfl ?_
  refine wp_putI dX13_readPeople_76 fp_CustomValleyModel_76 rfl rfl rfl ?_
  refine wp_aload_n dX13_readPeople_79 rfl rfl ?_
  refine wp_iconst dX13_readPeople_80 rfl ?_
  refine wp_putZ dX13_readPeople_81 fp_CustomValleyModel_89 rfl rfl rfl (by decide) ?_
  exact wp_ret dX13_readPeople_84 rfl h
theorem dX13_is_0 : decode cX13_is 0 = .ok (.aload_n 0, 1) := by decide +kernel
theorem dX13_is_1 : decode cX13_is 1 = .ok (.getfield 31, 3) := by decide +kernel
theorem dX13_is_4 : decode cX13_is 4 = .ok (.iconst 1, 1) := by decide +kernel
theorem dX13_is_5 : decode cX13_is 5 = .ok (.if_icmp .ne 23, 3) := by decide +kernel
theorem dX13_is_8 : decode cX13_is 8 = .ok (.aload_n 0, 1) := by decide +kernel
theorem dX13_is_9 : decode cX13_is 9 = .ok (.getfield 24, 3) := by decide +kernel
theorem dX13_is_12 : decode cX13_is 12 = .ok (.aload_n 0, 1) := by decide +kernel
theorem dX13_is_13 : decode cX13_is 13 = .ok (.getfield 7, 3) := by decide +kernel
theorem dX13_is_16 : decode cX13_is 16 = .ok (.isub, 1) := by decide +kernel
theorem dX13_is_17 : decode cX13_is 17 = .ok (.aload_n 1, 1) := by decide +kernel
theorem dX13_is_18 : decode cX13_is 18 = .ok (.invokevirtual 44, 3) := by decide +kernel
theorem dX13_is_21 : decode cX13_is 21 = .ok (.if_icmp .ne 7, 3) := by decide +kernel
theorem dX13_is_24 : decode cX13_is 24 = .ok (.iconst 1, 1) := by decide +kernel
theorem dX13_is_25 : decode cX13_is 25 = .ok (.goto 4, 3) := by decide +kernel
theorem dX13_is_28 : decode cX13_is 28 = .ok (.iconst 0, 1) := by decide +kernel
theorem dX13_is_29 : decode cX13_is 29 = .ok (.istore_n 2, 1) := by decide +kernel
theorem dX13_is_30 : decode cX13_is 30 = .ok (.iconst 0, 1) := by decide +kernel
theorem dX13_is_31 : decode cX13_is 31 = .ok (.istore_n 3, 1) := by decide +kernel
theorem dX13_is_32 : decode cX13_is 32 = .ok (.iload_n 3, 1) := by decide +kernel
theorem dX13_is_33 : decode cX13_is 33 = .ok (.aload_n 1, 1) := by decide +kernel
theorem dX13_is_34 : decode cX13_is 34 = .ok (.invokevirtual 44, 3) := by decide +kernel
theorem dX13_is_37 : decode cX13_is 37 = .ok (.if_icmp .ge 38, 3) := by decide +kernel
theorem dX13_is_40 : decode cX13_is 40 = .ok (.iload_n 2, 1) := by decide +kernel
theorem dX13_is_41 : decode cX13_is 41 = .ok (.ifCond .eq 34, 3) := by decide +kernel
theorem dX13_is_44 : decode cX13_is 44 = .ok (.aload_n 0, 1) := by decide +kernel
theorem dX13_is_45 : decode cX13_is 45 = .ok (.getfield 20, 3) := by decide +kernel
theorem dX13_is_48 : decode cX13_is 48 = .ok (.aload_n 0, 1) := by decide +kernel
theorem dX13_is_49 : decode cX13_is 49 = .ok (.getfield 7, 3) := by decide +kernel
theorem dX13_is_52 : decode cX13_is 52 = .ok (.iload_n 3, 1) := by decide +kernel
theorem dX13_is_53 : decode cX13_is 53 = .ok (.iadd, 1) := by decide +kernel
theorem dX13_is_54 : decode cX13_is 54 = .ok (.baload, 1) := by decide +kernel
theorem dX13_is_55 : decode cX13_is 55 = .ok (.aload_n 1, 1) := by decide +kernel
theorem dX13_is_56 : decode cX13_is 56 = .ok (.iload_n 3, 1) := by decide +kernel
theorem dX13_is_57 : decode cX13_is 57 = .ok (.invokevirtual 49, 3) := by decide +kernel
theorem dX13_is_60 : decode cX13_is 60 = .ok (.if_icmp .ne 7, 3) := by decide +kernel
theorem dX13_is_63 : decode cX13_is 63 = .ok (.iconst 1, 1) := by decide +kernel
theorem dX13_is_64 : decode cX13_is 64 = .ok (.goto 4, 3) := by decide +kernel
theorem dX13_is_67 : decode cX13_is 67 = .ok (.iconst 0, 1) := by decide +kernel
theorem dX13_is_68 : decode cX13_is 68 = .ok (.istore_n 2, 1) := by decide +kernel
theorem dX13_is_69 : decode cX13_is 69 = .ok (.iinc 3 1, 3) := by decide +kernel
theorem dX13_is_72 : decode cX13_is 72 = .ok (.goto (-40), 3) := by decide +kernel
theorem dX13_is_75 : decode cX13_is 75 = .ok (.iload_n 2, 1) := by decide +kernel
theorem dX13_is_76 : decode cX13_is 76 = .ok (.ireturn, 1) := by decide +kernel
theorem b_X13_is_0 {j : Nat} {σ : St} {Q : Res → St → Prop} (h : (((σ 14 0 6) ≠ 1) → (WP mX13_is 32 [vR 14 0, vR 1001 j, vI 0, vI 0] [] σ Q)) ∧ (((σ 14 0 6) = 1) → ((in32 ((σ 14 0 5) - (σ 14 0 4))) ∧ ((j < 11) ∧ (((((σ 14 0 5) - (σ 14 0 4)) ≠ (((strLen.getD j 0 : Nat) : Int))) → (WP mX13_is 32 [vR 14 0, vR 1001 j, vI 0, vI 0] [] σ Q)) ∧ ((((σ 14 0 5) - (σ 14 0 4)) = (((strLen.getD j 0 : Nat) : Int))) → (WP mX13_is 32 [vR 14 0, vR 1001 j, vI 1, vI 0] [] σ Q))))))) : WP mX13_is 0 [vR 14 0, vR 1001 j, vU, vU] [] σ Q := by
  refine wp_aload_n dX13_is_0 rfl rfl ?_
  refine wp_getI dX13_is_1 fl_CustomValleyModel_31 rfl rfl rfl ?_
  refine wp_iconst dX13_is_4 rfl ?_
  refine wp_icmp_ne (tgt := 28) dX13_is_5 (by decide) (fun hc => ?_) (fun hc => ?_)
  · replace h := h.1 hc
    refine wp_iconst dX13_is_28 rfl ?_
    refine wp_istore_n dX13_is_29 rfl (by decide) rfl rfl ?_
    refine wp_iconst dX13_is_30 rfl ?_
    refine wp_istore_n dX13_is_31 rfl (by decide) rfl rfl ?_
    exact h
  · replace h := h.2 hc
    refine wp_aload_n dX13_is_8 rfl rfl ?_
    refine wp_getI dX13_is_9 fl_CustomValleyModel_24 rfl rfl rfl ?_
    refine wp_aload_n dX13_is_12 rfl rfl ?_
    refine wp_getI dX13_is_13 fl_CustomValleyModel_7 rfl rfl rfl ?_
    have s2 := h.1
    replace h := h.2
    refine wp_isub dX13_is_16 ?_ (h1 := s2.1) (h2 := s2.2)
    refine wp_aload_n dX13_is_17 rfl rfl ?_
    have s1 := h.1
    replace h := h.2
    refine wp_strlen dX13_is_18 sl_CustomValleyModel_44 (by decide) (Nat.le_of_ble_eq_true rfl) s1 ?_
    refine wp_icmp_ne (tgt := 28) dX13_is_21 (by decide) (fun hc => ?_) (fun hc => ?_)
    · replace h := h.1 hc
      refine wp_iconst dX13_is_28 rfl ?_
      refine wp_istore_n dX13_is_29 rfl (by decide) rfl rfl ?_
      refine wp_iconst dX13_is_30 rfl ?_
      refine wp_istore_n dX13_is_31 rfl (by decide) rfl rfl ?_
      exact h
    · replace h := h.2 hc
      refine wp_iconst dX13_is_24 rfl ?_
      refine wp_goto (tgt := 29) dX13_is_25 (by decide) ?_
      refine wp_istore_n dX13_is_29 rfl (by decide) rfl rfl ?_
      refine wp_iconst dX13_is_30 rfl ?_
      refine wp_istore_n dX13_is_31 rfl (by decide) rfl rfl ?_
      exact h
theorem b_X13_is_32 {j : Nat} {x2 : Int} {x3 : Int} {σ : St} {Q : Res → St → Prop} (h : (j < 11) ∧ ((((((strLen.getD j 0 : Nat) : Int)) ≤ x3) → ((x2 = 0 ∨ x2 = 1) ∧ Q (.inl (some (vI x2))) σ)) ∧ ((x3 < (((strLen.getD j 0 : Nat) : Int))) → (((x2 = 0) → ((x2 = 0 ∨ x2 = 1) ∧ Q (.inl (some (vI x2))) σ)) ∧ ((x2 ≠ 0) → ((in32 ((σ 14 0 4) + x3)) ∧ ((0 ≤ (σ 14 0 4) + x3 ∧ ((σ 14 0 4) + x3) < 700) ∧ ((j < 11 ∧ 0 ≤ x3 ∧ x3 < ((strLen.getD j 0 : Nat) : Int)) ∧ ((((σ 66 0 (((σ 14 0 4) + x3).toNat)) ≠ (chr j x3.toNat)) → ((in32 (x3 + 1)) ∧ (WP mX13_is 32 [vR 14 0, vR 1001 j, vI 0, vI (x3 + 1)] [] σ Q))) ∧ (((σ 66 0 (((σ 14 0 4) + x3).toNat)) = (chr j x3.toNat)) → ((in32 (x3 + 1)) ∧ (WP mX13_is 32 [vR 14 0, vR 1001 j, vI 1, vI (x3 + 1)] [] σ Q)))))))))))) : WP mX13_is 32 [vR 14 0, vR 1001 j, vI x2, vI x3] [] σ Q := by
  refine wp_iload_n dX13_is_32 rfl rfl ?_
  refine wp_aload_n dX13_is_33 rfl rfl ?_
  have s8 := h.1
  replace h := h.2
  refine wp_strlen dX13_is_34 sl_CustomValleyModel_44 (by decide) (Nat.le_of_ble_eq_true rfl) s8 ?_
  refine wp_icmp_ge (tgt := 75) dX13_is_37 (by decide) (fun hc => ?_) (fun hc => ?_)
  · replace h := h.1 hc
    refine wp_iload_n dX13_is_75 rfl rfl ?_
    have s1 := h.1
    replace h := h.2
    exact wp_zret dX13_is_76 rfl h s1
  · replace h := h.2 hc
    refine wp_iload_n dX13_is_40 rfl rfl ?_
    refine wp_if_eq (tgt := 75) dX13_is_41 (by decide) (fun hc => ?_) (fun hc => ?_)
    · replace h := h.1 hc
      refine wp_iload_n dX13_is_75 rfl rfl ?_
      have s2 := h.1
      replace h := h.2
      exact wp_zret dX13_is_76 rfl h s2
    · replace h := h.2 hc
      refine wp_aload_n dX13_is_44 rfl rfl ?_
      refine wp_getR dX13_is_45 fl_CustomValleyModel_20 rfl rfl ?_
      refine wp_aload_n dX13_is_48 rfl rfl ?_
      refine wp_getI dX13_is_49 fl_CustomValleyModel_7 rfl rfl rfl ?_
      refine wp_iload_n dX13_is_52 rfl rfl ?_
      have s7 := h.1
      replace h := h.2
      refine wp_iadd dX13_is_53 ?_ (h1 := s7.1) (h2 := s7.2)
      have s6 := h.1
      replace h := h.2
      refine wp_baload dX13_is_54 rfl rfl s6.1 s6.2 ?_
      refine wp_aload_n dX13_is_55 rfl rfl ?_
      refine wp_iload_n dX13_is_56 rfl rfl ?_
      have s5 := h.1
      replace h := h.2
      refine wp_charAt dX13_is_57 sl_CustomValleyModel_49 (by decide) (Nat.le_of_ble_eq_true rfl) s5.1 s5.2.1 s5.2.2 ?_
      refine wp_icmp_ne (tgt := 67) dX13_is_60 (by decide) (fun hc => ?_) (fun hc => ?_)
      · replace h := h.1 hc
        refine wp_iconst dX13_is_67 rfl ?_
        refine wp_istore_n dX13_is_68 rfl (by decide) rfl rfl ?_
        have s3 := h.1
        replace h := h.2
        refine wp_iinc dX13_is_69 rfl (by decide) rfl rfl ?_ (h1 := s3.1) (h2 := s3.2)
        refine wp_goto (tgt := 32) dX13_is_72 (by decide) ?_
        exact h
      · replace h := h.2 hc
        refine wp_iconst dX13_is_63 rfl ?_
        refine wp_goto (tgt := 68) dX13_is_64 (by decide) ?_
        refine wp_istore_n dX13_is_68 rfl (by decide) rfl rfl ?_
        have s4 := h.1
        replace h := h.2
        refine wp_iinc dX13_is_69 rfl (by decide) rfl rfl ?_ (h1 := s4.1) (h2 := s4.2)
        refine wp_goto (tgt := 32) dX13_is_72 (by decide) ?_
        exact h
theorem dX13_readKeeps_0 : decode cX13_readKeeps 0 = .ok (.aload_n 0, 1) := by decide +kernel
theorem dX13_readKeeps_1 : decode cX13_readKeeps 1 = .ok (.invokevirtual 69, 3) := by decide +kernel
theorem dX13_readKeeps_4 : decode cX13_readKeeps 4 = .ok (.aload_n 0, 1) := by decide +kernel
theorem dX13_readKeeps_5 : decode cX13_readKeeps 5 = .ok (.iconst 0, 1) := by decide +kernel
theorem dX13_readKeeps_6 : decode cX13_readKeeps 6 = .ok (.aload_n 0, 1) := by decide +kernel
theorem dX13_readKeeps_7 : decode cX13_readKeeps 7 = .ok (.getfield 76, 3) := by decide +kernel
theorem dX13_readKeeps_10 : decode cX13_readKeeps 10 = .ok (.iconst 1, 1) := by decide +kernel
theorem dX13_readKeeps_11 : decode cX13_readKeeps 11 = .ok (.isub, 1) := by decide +kernel
theorem dX13_readKeeps_12 : decode cX13_readKeeps 12 = .ok (.invokevirtual 65, 3) := by decide +kernel
theorem dX13_readKeeps_15 : decode cX13_readKeeps 15 = .ok (.istore_n 1, 1) := by decide +kernel
theorem dX13_readKeeps_16 : decode cX13_readKeeps 16 = .ok (.aload_n 0, 1) := by decide +kernel
theorem dX13_readKeeps_17 : decode cX13_readKeeps 17 = .ok (.aload_n 0, 1) := by decide +kernel
theorem dX13_readKeeps_18 : decode cX13_readKeeps 18 = .ok (.getfield 121, 3) := by decide +kernel
theorem dX13_readKeeps_21 : decode cX13_readKeeps 21 = .ok (.iload_n 1, 1) := by decide +kernel
theorem dX13_readKeeps_22 : decode cX13_readKeeps 22 = .ok (.iaload, 1) := by decide +kernel
theorem dX13_readKeeps_23 : decode cX13_readKeeps 23 = .ok (.iconst (-1), 1) := by decide +kernel
theorem dX13_readKeeps_24 : decode cX13_readKeeps 24 = .ok (.if_icmp .ne 7, 3) := by decide +kernel
theorem dX13_readKeeps_27 : decode cX13_readKeeps 27 = .ok (.iconst 1, 1) := by decide +kernel
theorem dX13_readKeeps_28 : decode cX13_readKeeps 28 = .ok (.goto 4, 3) := by decide +kernel
theorem dX13_readKeeps_31 : decode cX13_readKeeps 31 = .ok (.iconst 0, 1) := by decide +kernel
theorem dX13_readKeeps_32 : decode cX13_readKeeps 32 = .ok (.iconst 3, 1) := by decide +kernel
theorem dX13_readKeeps_33 : decode cX13_readKeeps 33 = .ok (.invokevirtual 57, 3) := by decide +kernel
theorem dX13_readKeeps_36 : decode cX13_readKeeps 36 = .ok (.aload_n 0, 1) := by decide +kernel
theorem dX13_readKeeps_37 : decode cX13_readKeeps 37 = .ok (.invokevirtual 69, 3) := by decide +kernel
theorem dX13_readKeeps_40 : decode cX13_readKeeps 40 = .ok (.aload_n 0, 1) := by decide +kernel
theorem dX13_readKeeps_41 : decode cX13_readKeeps 41 = .ok (.getfield 121, 3) := by decide +kernel
theorem dX13_readKeeps_44 : decode cX13_readKeeps 44 = .ok (.iload_n 1, 1) := by decide +kernel
theorem dX13_readKeeps_45 : decode cX13_readKeeps 45 = .ok (.aload_n 0, 1) := by decide +kernel
theorem dX13_readKeeps_46 : decode cX13_readKeeps 46 = .ok (.iconst 0, 1) := by decide +kernel
theorem dX13_readKeeps_47 : decode cX13_readKeeps 47 = .ok (.aload_n 0, 1) := by decide +kernel
theorem dX13_readKeeps_48 : decode cX13_readKeeps 48 = .ok (.getfield 79, 3) := by decide +kernel
theorem dX13_readKeeps_51 : decode cX13_readKeeps 51 = .ok (.iconst 1, 1) := by decide +kernel
theorem dX13_readKeeps_52 : decode cX13_readKeeps 52 = .ok (.isub, 1) := by decide +kernel
theorem dX13_readKeeps_53 : decode cX13_readKeeps 53 = .ok (.invokevirtual 132, 3) := by decide +kernel
theorem dX13_readKeeps_56 : decode cX13_readKeeps 56 = .ok (.iastore, 1) := by decide +kernel
theorem dX13_readKeeps_57 : decode cX13_readKeeps 57 = .ok (.return_, 1) := by decide +kernel
theorem b_X13_readKeeps_0  {σ : St} {Q : Res → St → Prop} (h : WP mX13_scan 0 [vR 14 0, vU] [] σ (CT mX13_readKeeps 4 [vR 14 0, vU] [] Q)) : WP mX13_readKeeps 0 [vR 14 0, vU] [] σ Q := by
  refine wp_aload_n dX13_readKeeps_0 rfl rfl ?_
  refine wp_invV (N := mX13_scan) [] dX13_readKeeps_1 ml_CustomValleyModel_69 mvX13_scan rfl rfl rfl rfl rfl (Nat.le_of_ble_eq_true rfl) (Nat.le_of_ble_eq_true rfl) (by decide) (by decide) (by decide) ?_
  exact h
theorem b_X13_readKeeps_4  {σ : St} {Q : Res → St → Prop} (h : (in32 ((σ 14 0 14) - 1)) ∧ (WP mX13_look 0 [vR 14 0, vI 0, vI ((σ 14 0 14) - 1)] [] σ (CTT mX13_readKeeps 15 [vR 14 0, vU] [] Q))) : WP mX13_readKeeps 4 [vR 14 0, vU] [] σ Q := by
  refine wp_aload_n dX13_readKeeps_4 rfl rfl ?_
  refine wp_iconst dX13_readKeeps_5 rfl ?_
  refine wp_aload_n dX13_readKeeps_6 rfl rfl ?_
  refine wp_getI dX13_readKeeps_7 fl_CustomValleyModel_76 rfl rfl rfl ?_
  refine wp_iconst dX13_readKeeps_10 rfl ?_
  have s1 := h.1
  replace h := h.2
  refine wp_isub dX13_readKeeps_11 ?_ (h1 := s1.1) (h2 := s1.2)
  refine wp_invVT (N := mX13_look) mvX13_readKeeps.1.1 [vI 0, vI ((σ 14 0 14) - 1)] dX13_readKeeps_12 ml_CustomValleyModel_65 mvX13_look rfl rfl rfl rfl rfl (Nat.le_of_ble_eq_true rfl) (Nat.le_of_ble_eq_true rfl) (by decide) (by decide) (by decide) ?_
  exact h
theorem b_X13_readKeeps_15 {t0 : Int} {σ : St} {Q : Res → St → Prop} (h : (0 ≤ t0 ∧ t0 < 10) ∧ ((((σ 72 0 t0.toNat) ≠ (-1)) → (WP mX13_need 0 [vR 14 0, vI 0, vI 3] [] σ (CTT mX13_readKeeps 36 [vR 14 0, vI t0] [] Q))) ∧ (((σ 72 0 t0.toNat) = (-1)) → (WP mX13_need 0 [vR 14 0, vI 1, vI 3] [] σ (CTT mX13_readKeeps 36 [vR 14 0, vI t0] [] Q))))) : WP mX13_readKeeps 15 [vR 14 0, vU] [vI t0] σ Q := by
  refine wp_istore_n dX13_readKeeps_15 rfl (by decide) rfl rfl ?_
  refine wp_aload_n dX13_readKeeps_16 rfl rfl ?_
  refine wp_aload_n dX13_readKeeps_17 rfl rfl ?_
  refine wp_getR dX13_readKeeps_18 fl_CustomValleyModel_121 rfl rfl ?_
  refine wp_iload_n dX13_readKeeps_21 rfl rfl ?_
  have s1 := h.1
  replace h := h.2
  refine wp_iaload dX13_readKeeps_22 rfl rfl s1.1 s1.2 ?_
  refine wp_iconst dX13_readKeeps_23 rfl ?_
  refine wp_icmp_ne (tgt := 31) dX13_readKeeps_24 (by decide) (fun hc => ?_) (fun hc => ?_)
  · replace h := h.1 hc
    refine wp_iconst dX13_readKeeps_31 rfl ?_
    refine wp_iconst dX13_readKeeps_32 rfl ?_
    refine wp_invVT (N := mX13_need) mvX13_readKeeps.1.1 [vI 0, vI 3] dX13_readKeeps_33 ml_CustomValleyModel_57 mvX13_need rfl rfl rfl rfl rfl (Nat.le_of_ble_eq_true rfl) (Nat.le_of_ble_eq_true rfl) (by decide) (by decide) (by decide) ?_
    exact h
  · replace h := h.2 hc
    refine wp_iconst dX13_readKeeps_27 rfl ?_
    refine wp_goto (tgt := 32) dX13_readKeeps_28 (by decide) ?_
    refine wp_iconst dX13_readKeeps_32 rfl ?_
    refine wp_invVT (N := mX13_need) mvX13_readKeeps.1.1 [vI 1, vI 3] dX13_readKeeps_33 ml_CustomValleyModel_57 mvX13_need rfl rfl rfl rfl rfl (Nat.le_of_ble_eq_true rfl) (Nat.le_of_ble_eq_true rfl) (by decide) (by decide) (by decide) ?_
    exact h
theorem b_X13_readKeeps_36 {x1 : Int} {σ : St} {Q : Res → St → Prop} (h : WP mX13_scan 0 [vR 14 0, vU] [] σ (CT mX13_readKeeps 40 [vR 14 0, vI x1] [] Q)) : WP mX13_readKeeps 36 [vR 14 0, vI x1] [] σ Q := by
  refine wp_aload_n dX13_readKeeps_36 rfl rfl ?_
  refine wp_invV (N := mX13_scan) [] dX13_readKeeps_37 ml_CustomValleyModel_69 mvX13_scan rfl rfl rfl rfl rfl (Nat.le_of_ble_eq_true rfl) (Nat.le_of_ble_eq_true rfl) (by decide) (by decide) (by decide) ?_
  exact h
theorem b_X13_readKeeps_40 {x1 : Int} {σ : St} {Q : Res → St → Prop} (h : (in32 ((σ 14 0 15) - 1)) ∧ (WP mX13_number 0 [vR 14 0, vI 0, vI ((σ 14 0 15) - 1), vU] [] σ (CTT mX13_readKeeps 56 [vU, vU] [vI x1, vR 72 0] Q))) : WP mX13_readKeeps 40 [vR 14 0, vI x1] [] σ Q := by
  refine wp_aload_n dX13_readKeeps_40 rfl rfl ?_
  refine wp_getR dX13_readKeeps_41 fl_CustomValleyModel_121 rfl rfl ?_
  refine wp_iload_n dX13_readKeeps_44 rfl rfl ?_
  refine wp_aload_n dX13_readKeeps_45 rfl rfl ?_
  refine wp_iconst dX13_readKeeps_46 rfl ?_
  refine wp_aload_n dX13_readKeeps_47 rfl rfl ?_
  refine wp_getI dX13_readKeeps_48 fl_CustomValleyModel_79 rfl rfl rfl ?_
  refine wp_iconst dX13_readKeeps_51 rfl ?_
  have s1 := h.1
  replace h := h.2
  refine wp_isub dX13_readKeeps_52 ?_ (h1 := s1.1) (h2 := s1.2)
  refine wp_invVT (N := mX13_number) mvX13_readKeeps.1.1 [vI 0, vI ((σ 14 0 15) - 1)] dX13_readKeeps_53 ml_CustomValleyModel_132 mvX13_number rfl rfl rfl rfl rfl (Nat.le_of_ble_eq_true rfl) (Nat.le_of_ble_eq_true rfl) (by decide) (by decide) (by decide) ?_
  exact WP.mono h (ctt_drop (lle_c (Or.inr rfl) (lle_c (Or.inr rfl) lle_n)))
theorem b_X13_readKeeps_56 {t0 : Int} {t1 : Int} {σ : St} {Q : Res → St → Prop} (h : (0 ≤ t1 ∧ t1 < 10) ∧ (Q (.inl none) (up σ 72 0 t1.toNat t0))) : WP mX13_readKeeps 56 [vU, vU] [vI t0, vI t1, vR 72 0] σ Q := by
  have s1 := h.1
  replace h := h.2
  refine wp_iastore dX13_readKeeps_56 rfl rfl s1.1 s1.2 ?_
  exact wp_ret dX13_readKeeps_57 rfl h
theorem dX13_readMeets_0 : decode cX13_readMeets 0 = .ok (.aload_n 0, 1) := by decide +kernel
theorem dX13_readMeets_1 : decode cX13_readMeets 1 = .ok (.invokevirtual 69, 3) := by decide +kernel
theorem dX13_readMeets_4 : decode cX13_readMeets 4 = .ok (.aload_n 0, 1) := by decide +kernel
theorem dX13_readMeets_5 : decode cX13_readMeets 5 = .ok (.iconst 1, 1) := by decide +kernel
theorem dX13_readMeets_6 : decode cX13_readMeets 6 = .ok (.putfield 98, 3) := by decide +kernel
theorem dX13_readMeets_9 : decode cX13_readMeets 9 = .ok (.aload_n 0, 1) := by decide +kernel
theorem dX13_readMeets_10 : decode cX13_readMeets 10 = .ok (.iconst 0, 1) := by decide +kernel
theorem dX13_readMeets_11 : decode cX13_readMeets 11 = .ok (.aload_n 0, 1) := by decide +kernel
theorem dX13_readMeets_12 : decode cX13_readMeets 12 = .ok (.getfield 76, 3) := by decide +kernel
theorem dX13_readMeets_15 : decode cX13_readMeets 15 = .ok (.iconst 1, 1) := by decide +kernel
theorem dX13_readMeets_16 : decode cX13_readMeets 16 = .ok (.isub, 1) := by decide +kernel
theorem dX13_readMeets_17 : decode cX13_readMeets 17 = .ok (.invokevirtual 132, 3) := by decide +kernel
theorem dX13_readMeets_20 : decode cX13_readMeets 20 = .ok (.istore_n 1, 1) := by decide +kernel
theorem dX13_readMeets_21 : decode cX13_readMeets 21 = .ok (.aload_n 0, 1) := by decide +kernel
theorem dX13_readMeets_22 : decode cX13_readMeets 22 = .ok (.iconst 0, 1) := by decide +kernel
theorem dX13_readMeets_23 : decode cX13_readMeets 23 = .ok (.aload_n 0, 1) := by decide +kernel
theorem dX13_readMeets_24 : decode cX13_readMeets 24 = .ok (.getfield 76, 3) := by decide +kernel
theorem dX13_readMeets_27 : decode cX13_readMeets 27 = .ok (.iconst 1, 1) := by decide +kernel
theorem dX13_readMeets_28 : decode cX13_readMeets 28 = .ok (.isub, 1) := by decide +kernel
theorem dX13_readMeets_29 : decode cX13_readMeets 29 = .ok (.invokevirtual 65, 3) := by decide +kernel
theorem dX13_readMeets_32 : decode cX13_readMeets 32 = .ok (.istore_n 2, 1) := by decide +kernel
theorem dX13_readMeets_33 : decode cX13_readMeets 33 = .ok (.aload_n 0, 1) := by decide +kernel
theorem dX13_readMeets_34 : decode cX13_readMeets 34 = .ok (.iload_n 1, 1) := by decide +kernel
theorem dX13_readMeets_35 : decode cX13_readMeets 35 = .ok (.iload_n 2, 1) := by decide +kernel
theorem dX13_readMeets_36 : decode cX13_readMeets 36 = .ok (.if_icmp .eq 20, 3) := by decide +kernel
theorem dX13_readMeets_39 : decode cX13_readMeets 39 = .ok (.aload_n 0, 1) := by decide +kernel
theorem dX13_readMeets_40 : decode cX13_readMeets 40 = .ok (.getfield 118, 3) := by decide +kernel
theorem dX13_readMeets_43 : decode cX13_readMeets 43 = .ok (.iload_n 1, 1) := by decide +kernel
theorem dX13_readMeets_44 : decode cX13_readMeets 44 = .ok (.iaload, 1) := by decide +kernel
theorem dX13_readMeets_45 : decode cX13_readMeets 45 = .ok (.iload_n 2, 1) := by decide +kernel
theorem dX13_readMeets_46 : decode cX13_readMeets 46 = .ok (.ishr, 1) := by decide +kernel
theorem dX13_readMeets_47 : decode cX13_readMeets 47 = .ok (.iconst 1, 1) := by decide +kernel
theorem dX13_readMeets_48 : decode cX13_readMeets 48 = .ok (.iand, 1) := by decide +kernel
theorem dX13_readMeets_49 : decode cX13_readMeets 49 = .ok (.ifCond .ne 7, 3) := by decide +kernel
theorem dX13_readMeets_52 : decode cX13_readMeets 52 = .ok (.iconst 1, 1) := by decide +kernel
theorem dX13_readMeets_53 : decode cX13_readMeets 53 = .ok (.goto 4, 3) := by decide +kernel
theorem dX13_readMeets_56 : decode cX13_readMeets 56 = .ok (.iconst 0, 1) := by decide +kernel
theorem dX13_readMeets_57 : decode cX13_readMeets 57 = .ok (.iconst 3, 1) := by decide +kernel
theorem dX13_readMeets_58 : decode cX13_readMeets 58 = .ok (.invokevirtual 57, 3) := by decide +kernel
theorem dX13_readMeets_61 : decode cX13_readMeets 61 = .ok (.aload_n 0, 1) := by decide +kernel
theorem dX13_readMeets_62 : decode cX13_readMeets 62 = .ok (.invokevirtual 69, 3) := by decide +kernel
theorem dX13_readMeets_65 : decode cX13_readMeets 65 = .ok (.aload_n 0, 1) := by decide +kernel
theorem dX13_readMeets_66 : decode cX13_readMeets 66 = .ok (.getfield 118, 3) := by decide +kernel
theorem dX13_readMeets_69 : decode cX13_readMeets 69 = .ok (.iload_n 1, 1) := by decide +kernel
theorem dX13_readMeets_70 : decode cX13_readMeets 70 = .ok (.dup2, 1) := by decide +kernel
theorem dX13_readMeets_71 : decode cX13_readMeets 71 = .ok (.iaload, 1) := by decide +kernel
theorem dX13_readMeets_72 : decode cX13_readMeets 72 = .ok (.iconst 1, 1) := by decide +kernel
theorem dX13_readMeets_73 : decode cX13_readMeets 73 = .ok (.iload_n 2, 1) := by decide +kernel
theorem dX13_readMeets_74 : decode cX13_readMeets 74 = .ok (.ishl, 1) := by decide +kernel
theorem dX13_readMeets_75 : decode cX13_readMeets 75 = .ok (.ior, 1) := by decide +kernel
theorem dX13_readMeets_76 : decode cX13_readMeets 76 = .ok (.iastore, 1) := by decide +kernel
theorem dX13_readMeets_77 : decode cX13_readMeets 77 = .ok (.aload_n 0, 1) := by decide +kernel
theorem dX13_readMeets_78 : decode cX13_readMeets 78 = .ok (.getfield 118, 3) := by decide +kernel
theorem dX13_readMeets_81 : decode cX13_readMeets 81 = .ok (.iload_n 2, 1) := by decide +kernel
theorem dX13_readMeets_82 : decode cX13_readMeets 82 = .ok (.dup2, 1) := by decide +kernel
theorem dX13_readMeets_83 : decode cX13_readMeets 83 = .ok (.iaload, 1) := by decide +kernel
theorem dX13_readMeets_84 : decode cX13_readMeets 84 = .ok (.iconst 1, 1) := by decide +kernel
theorem dX13_readMeets_85 : decode cX13_readMeets 85 = .ok (.iload_n 1, 1) := by decide +kernel
theorem dX13_readMeets_86 : decode cX13_readMeets 86 = .ok (.ishl, 1) := by decide +kernel
theorem dX13_readMeets_87 : decode cX13_readMeets 87 = .ok (.ior, 1) := by decide +kernel
theorem dX13_readMeets_88 : decode cX13_readMeets 88 = .ok (.iastore, 1) := by decide +kernel
theorem dX13_readMeets_89 : decode cX13_readMeets 89 = .ok (.aload_n 0, 1) := by decide +kernel
theorem dX13_readMeets_90 : decode cX13_readMeets 90 = .ok (.getfield 31, 3) := by decide +kernel
theorem dX13_readMeets_93 : decode cX13_readMeets 93 = .ok (.iconst 2, 1) := by decide +kernel
theorem dX13_readMeets_94 : decode cX13_readMeets 94 = .ok (.if_icmp .eq (-85), 3) := by decide +kernel
theorem dX13_readMeets_97 : decode cX13_readMeets 97 = .ok (.return_, 1) := by decide +kernel
theorem b_X13_readMeets_0  {σ : St} {Q : Res → St → Prop} (h : WP mX13_scan 0 [vR 14 0, vU] [] σ (CT mX13_readMeets 4 [vR 14 0, vU, vU] [] Q)) : WP mX13_readMeets 0 [vR 14 0, vU, vU] [] σ Q := by
  refine wp_aload_n dX13_readMeets_0 rfl rfl ?_
  refine wp_invV (N := mX13_scan) [] dX13_readMeets_1 ml_CustomValleyModel_69 mvX13_scan rfl rfl rfl rfl rfl (Nat.le_of_ble_eq_true rfl) (Nat.le_of_ble_eq_true rfl) (by decide) (by decide) (by decide) ?_
  exact h
theorem b_X13_readMeets_4  {σ : St} {Q : Res → St → Prop} (h : WP mX13_readMeets 9 [vR 14 0, vU, vU] [] (up σ 14 0 22 1) Q) : WP mX13_readMeets 4 [vR 14 0, vU, vU] [] σ Q := by
  refine wp_aload_n dX13_readMeets_4 rfl rfl ?_
  refine wp_iconst dX13_readMeets_5 rfl ?_
  refine wp_putZ dX13_readMeets_6 fp_CustomValleyModel_98 rfl rfl rfl (by decide) ?_
  exact h
theorem b_X13_readMeets_9  {σ : St} {Q : Res → St → Prop} (h : (in32 ((σ 14 0 14) - 1)) ∧ (WP mX13_number 0 [vR 14 0, vI 0, vI ((σ 14 0 14) - 1), vU] [] σ (CTT mX13_readMeets 20 [vR 14 0, vU, vU] [] Q))) : WP mX13_readMeets 9 [vR 14 0, vU, vU] [] σ Q := by
  refine wp_aload_n dX13_readMeets_9 rfl rfl ?_
  refine wp_iconst dX13_readMeets_10 rfl ?_
  refine wp_aload_n dX13_readMeets_11 rfl rfl ?_
  refine wp_getI dX13_readMeets_12 fl_CustomValleyModel_76 rfl rfl rfl ?_
  refine wp_iconst dX13_readMeets_15 rfl ?_
  have s1 := h.1
  replace h := h.2
  refine wp_isub dX13_readMeets_16 ?_ (h1 := s1.1) (h2 := s1.2)
  refine wp_invVT (N := mX13_number) mvX13_readMeets.1.1 [vI 0, vI ((σ 14 0 14) - 1)] dX13_readMeets_17 ml_CustomValleyModel_132 mvX13_number rfl rfl rfl rfl rfl (Nat.le_of_ble_eq_true rfl) (Nat.le_of_ble_eq_true rfl) (by decide) (by decide) (by decide) ?_
  exact h
theorem b_X13_readMeets_20 {t0 : Int} {σ : St} {Q : Res → St → Prop} (h : (in32 ((σ 14 0 14) - 1)) ∧ (WP mX13_look 0 [vR 14 0, vI 0, vI ((σ 14 0 14) - 1)] [] σ (CTT mX13_readMeets 32 [vR 14 0, vI t0, vU] [] Q))) : WP mX13_readMeets 20 [vR 14 0, vU, vU] [vI t0] σ Q := by
  refine wp_istore_n dX13_readMeets_20 rfl (by decide) rfl rfl ?_
  refine wp_aload_n dX13_readMeets_21 rfl rfl ?_
  refine wp_iconst dX13_readMeets_22 rfl ?_
  refine wp_aload_n dX13_readMeets_23 rfl rfl ?_
  refine wp_getI dX13_readMeets_24 fl_CustomValleyModel_76 rfl rfl rfl ?_
  refine wp_iconst dX13_readMeets_27 rfl ?_
  have s1 := h.1
  replace h := h.2
  refine wp_isub dX13_readMeets_28 ?_ (h1 := s1.1) (h2 := s1.2)
  refine wp_invVT (N := mX13_look) mvX13_readMeets.1.1 [vI 0, vI ((σ 14 0 14) - 1)] dX13_readMeets_29 ml_CustomValleyModel_65 mvX13_look rfl rfl rfl rfl rfl (Nat.le_of_ble_eq_true rfl) (Nat.le_of_ble_eq_true rfl) (by decide) (by decide) (by decide) ?_
  exact h
theorem b_X13_readMeets_32 {x1 : Int} {t0 : Int} {σ : St} {Q : Res → St → Prop} (h : ((x1 = t0) → (WP mX13_need 0 [vR 14 0, vI 0, vI 3] [] σ (CTT mX13_readMeets 61 [vR 14 0, vI x1, vI t0] [] Q))) ∧ ((x1 ≠ t0) → ((0 ≤ x1 ∧ x1 < 10) ∧ ((((band (shr (σ 70 0 x1.toNat) t0) 1) ≠ 0) → (WP mX13_need 0 [vR 14 0, vI 0, vI 3] [] σ (CTT mX13_readMeets 61 [vR 14 0, vI x1, vI t0] [] Q))) ∧ (((band (shr (σ 70 0 x1.toNat) t0) 1) = 0) → (WP mX13_need 0 [vR 14 0, vI 1, vI 3] [] σ (CTT mX13_readMeets 61 [vR 14 0, vI x1, vI t0] [] Q))))))) : WP mX13_readMeets 32 [vR 14 0, vI x1, vU] [vI t0] σ Q := by
  refine wp_istore_n dX13_readMeets_32 rfl (by decide) rfl rfl ?_
  refine wp_aload_n dX13_readMeets_33 rfl rfl ?_
  refine wp_iload_n dX13_readMeets_34 rfl rfl ?_
  refine wp_iload_n dX13_readMeets_35 rfl rfl ?_
  refine wp_icmp_eq (tgt := 56) dX13_readMeets_36 (by decide) (fun hc => ?_) (fun hc => ?_)
  · replace h := h.1 hc
    refine wp_iconst dX13_readMeets_56 rfl ?_
    refine wp_iconst dX13_readMeets_57 rfl ?_
    refine wp_invVT (N := mX13_need) mvX13_readMeets.1.1 [vI 0, vI 3] dX13_readMeets_58 ml_CustomValleyModel_57 mvX13_need rfl rfl rfl rfl rfl (Nat.le_of_ble_eq_true rfl) (Nat.le_of_ble_eq_true rfl) (by decide) (by decide) (by decide) ?_
    exact h
  · replace h := h.2 hc
    refine wp_aload_n dX13_readMeets_39 rfl rfl ?_
    refine wp_getR dX13_readMeets_40 fl_CustomValleyModel_118 rfl rfl ?_
    refine wp_iload_n dX13_readMeets_43 rfl rfl ?_
    have s1 := h.1
    replace h := h.2
    refine wp_iaload dX13_readMeets_44 rfl rfl s1.1 s1.2 ?_
    refine wp_iload_n dX13_readMeets_45 rfl rfl ?_
    refine wp_ishr dX13_readMeets_46 ?_
    refine wp_iconst dX13_readMeets_47 rfl ?_
    refine wp_iand dX13_readMeets_48 ?_
    refine wp_if_ne (tgt := 56) dX13_readMeets_49 (by decide) (fun hc => ?_) (fun hc => ?_)
    · replace h := h.1 hc
      refine wp_iconst dX13_readMeets_56 rfl ?_
      refine wp_iconst dX13_readMeets_57 rfl ?_
      refine wp_invVT (N := mX13_need) mvX13_readMeets.1.1 [vI 0, vI 3] dX13_readMeets_58 ml_CustomValleyModel_57 mvX13_need rfl rfl rfl rfl rfl (Nat.le_of_ble_eq_true rfl) (Nat.le_of_ble_eq_true rfl) (by decide) (by decide) (by decide) ?_
      exact h
    · replace h := h.2 hc
      refine wp_iconst dX13_readMeets_52 rfl ?_
      refine wp_goto (tgt := 57) dX13_readMeets_53 (by decide) ?_
      refine wp_iconst dX13_readMeets_57 rfl ?_
      refine wp_invVT (N := mX13_need) mvX13_readMeets.1.1 [vI 1, vI 3] dX13_readMeets_58 ml_CustomValleyModel_57 mvX13_need rfl rfl rfl rfl rfl (Nat.le_of_ble_eq_true rfl) (Nat.le_of_ble_eq_true rfl) (by decide) (by decide) (by decide) ?_
      exact h
theorem b_X13_readMeets_61 {x1 : Int} {x2 : Int} {σ : St} {Q : Res → St → Prop} (h : WP mX13_scan 0 [vR 14 0, vU] [] σ (CT mX13_readMeets 65 [vR 14 0, vI x1, vI x2] [] Q)) : WP mX13_readMeets 61 [vR 14 0, vI x1, vI x2] [] σ Q := by
  refine wp_aload_n dX13_readMeets_61 rfl rfl ?_
  refine wp_invV (N := mX13_scan) [] dX13_readMeets_62 ml_CustomValleyModel_69 mvX13_scan rfl rfl rfl rfl rfl (Nat.le_of_ble_eq_true rfl) (Nat.le_of_ble_eq_true rfl) (by decide) (by decide) (by decide) ?_
  exact h
theorem b_X13_readMeets_65 {x1 : Int} {x2 : Int} {σ : St} {Q : Res → St → Prop} (h : (0 ≤ x1 ∧ x1 < 10) ∧ ((0 ≤ x1 ∧ x1 < 10) ∧ ((0 ≤ x2 ∧ x2 < 10) ∧ ((0 ≤ x2 ∧ x2 < 10) ∧ ((((σ 14 0 6) = 2) → (WP mX13_readMeets 9 [vR 14 0, vU, vU] [] (up (up σ 70 0 x1.toNat (bor (σ 70 0 x1.toNat) (shl 1 x2))) 70 0 x2.toNat (bor ((up σ 70 0 x1.toNat (bor (σ 70 0 x1.toNat) (shl 1 x2))) 70 0 x2.toNat) (shl 1 x1))) Q)) ∧ (((σ 14 0 6) ≠ 2) → (Q (.inl none) (up (up σ 70 0 x1.toNat (bor (σ 70 0 x1.toNat) (shl 1 x2))) 70 0 x2.toNat (bor ((up σ 70 0 x1.toNat (bor (σ 70 0 x1.toNat) (shl 1 x2))) 70 0 x2.toNat) (shl 1 x1)))))))))) : WP mX13_readMeets 65 [vR 14 0, vI x1, vI x2] [] σ Q := by
  refine wp_aload_n dX13_readMeets_65 rfl rfl ?_
  refine wp_getR dX13_readMeets_66 fl_CustomValleyModel_118 rfl rfl ?_
  refine wp_iload_n dX13_readMeets_69 rfl rfl ?_
  refine wp_dup2 dX13_readMeets_70 ?_
  have s4 := h.1
  replace h := h.2
  refine wp_iaload dX13_readMeets_71 rfl rfl s4.1 s4.2 ?_
  refine wp_iconst dX13_readMeets_72 rfl ?_
  refine wp_iload_n dX13_readMeets_73 rfl rfl ?_
  refine wp_ishl dX13_readMeets_74 ?_
  refine wp_ior dX13_readMeets_75 ?_
  have s3 := h.1
  replace h := h.2
  refine wp_iastore dX13_readMeets_76 rfl rfl s3.1 s3.2 ?_
  refine wp_aload_n dX13_readMeets_77 rfl rfl ?_
  refine wp_getR dX13_readMeets_78 fl_CustomValleyModel_118 rfl rfl ?_
  refine wp_iload_n dX13_readMeets_81 rfl rfl ?_
  refine wp_dup2 dX13_readMeets_82 ?_
  have s2 := h.1
  replace h := h.2
  refine wp_iaload dX13_readMeets_83 rfl rfl s2.1 s2.2 ?_
  refine wp_iconst dX13_readMeets_84 rfl ?_
  refine wp_iload_n dX13_readMeets_85 rfl rfl ?_
  refine wp_ishl dX13_readMeets_86 ?_
  refine wp_ior dX13_readMeets_87 ?_
  have s1 := h.1
  replace h := h.2
  refine wp_iastore dX13_readMeets_88 rfl rfl s1.1 s1.2 ?_
  refine wp_aload_n dX13_readMeets_89 rfl rfl ?_
  refine wp_getI dX13_readMeets_90 fl_CustomValleyModel_31 rfl rfl rfl ?_
  rw [show (up (up σ 70 0 x1.toNat (bor (σ 70 0 x1.toNat) (shl 1 x2))) 70 0 x2.toNat (bor ((up σ 70 0 x1.toNat (bor (σ 70 0 x1.toNat) (shl 1 x2))) 70 0 x2.toNat) (shl 1 x1))) 14 0 6 = σ 14 0 6 from by simp [up]]
  refine wp_iconst dX13_readMeets_93 rfl ?_
  refine wp_icmp_eq (tgt := 9) dX13_readMeets_94 (by decide) (fun hc => ?_) (fun hc => ?_)
  · replace h := h.1 hc
    exact wp_drop (als' := [vR 14 0, vU, vU]) (lle_c (Or.inl rfl) (lle_c (Or.inr rfl) (lle_c (Or.inr rfl) lle_n))) h
  · replace h := h.2 hc
    exact wp_ret dX13_readMeets_97 rfl h
theorem dX13_readSlip_0 : decode cX13_readSlip 0 = .ok (.aload_n 0, 1) := by decide +kernel
theorem dX13_readSlip_1 : decode cX13_readSlip 1 = .ok (.invokevirtual 69, 3) := by decide +kernel
theorem dX13_readSlip_4 : decode cX13_readSlip 4 = .ok (.aload_n 0, 1) := by decide +kernel
theorem dX13_readSlip_5 : decode cX13_readSlip 5 = .ok (.iconst 0, 1) := by decide +kernel
theorem dX13_readSlip_6 : decode cX13_readSlip 6 = .ok (.aload_n 0, 1) := by decide +kernel
theorem dX13_readSlip_7 : decode cX13_readSlip 7 = .ok (.getfield 79, 3) := by decide +kernel
theorem dX13_readSlip_10 : decode cX13_readSlip 10 = .ok (.iconst 1, 1) := by decide +kernel
theorem dX13_readSlip_11 : decode cX13_readSlip 11 = .ok (.isub, 1) := by decide +kernel
theorem dX13_readSlip_12 : decode cX13_readSlip 12 = .ok (.invokevirtual 65, 3) := by decide +kernel
theorem dX13_readSlip_15 : decode cX13_readSlip 15 = .ok (.istore_n 1, 1) := by decide +kernel
theorem dX13_readSlip_16 : decode cX13_readSlip 16 = .ok (.aload_n 0, 1) := by decide +kernel
theorem dX13_readSlip_17 : decode cX13_readSlip 17 = .ok (.aload_n 0, 1) := by decide +kernel
theorem dX13_readSlip_18 : decode cX13_readSlip 18 = .ok (.getfield 115, 3) := by decide +kernel
theorem dX13_readSlip_21 : decode cX13_readSlip 21 = .ok (.iload_n 1, 1) := by decide +kernel
theorem dX13_readSlip_22 : decode cX13_readSlip 22 = .ok (.baload, 1) := by decide +kernel
theorem dX13_readSlip_23 : decode cX13_readSlip 23 = .ok (.ifCond .ne 7, 3) := by decide +kernel
theorem dX13_readSlip_26 : decode cX13_readSlip 26 = .ok (.iconst 1, 1) := by decide +kernel
theorem dX13_readSlip_27 : decode cX13_readSlip 27 = .ok (.goto 4, 3) := by decide +kernel
theorem dX13_readSlip_30 : decode cX13_readSlip 30 = .ok (.iconst 0, 1) := by decide +kernel
theorem dX13_readSlip_31 : decode cX13_readSlip 31 = .ok (.iconst 3, 1) := by decide +kernel
theorem dX13_readSlip_32 : decode cX13_readSlip 32 = .ok (.invokevirtual 57, 3) := by decide +kernel
theorem dX13_readSlip_35 : decode cX13_readSlip 35 = .ok (.aload_n 0, 1) := by decide +kernel
theorem dX13_readSlip_36 : decode cX13_readSlip 36 = .ok (.getfield 115, 3) := by decide +kernel
theorem dX13_readSlip_39 : decode cX13_readSlip 39 = .ok (.iload_n 1, 1) := by decide +kernel
theorem dX13_readSlip_40 : decode cX13_readSlip 40 = .ok (.iconst 1, 1) := by decide +kernel
theorem dX13_readSlip_41 : decode cX13_readSlip 41 = .ok (.bastore, 1) := by decide +kernel
theorem dX13_readSlip_42 : decode cX13_readSlip 42 = .ok (.aload_n 0, 1) := by decide +kernel
theorem dX13_readSlip_43 : decode cX13_readSlip 43 = .ok (.invokevirtual 69, 3) := by decide +kernel
theorem dX13_readSlip_46 : decode cX13_readSlip 46 = .ok (.aload_n 0, 1) := by decide +kernel
theorem dX13_readSlip_47 : decode cX13_readSlip 47 = .ok (.getfield 112, 3) := by decide +kernel
theorem dX13_readSlip_50 : decode cX13_readSlip 50 = .ok (.iload_n 1, 1) := by decide +kernel
theorem dX13_readSlip_51 : decode cX13_readSlip 51 = .ok (.aload_n 0, 1) := by decide +kernel
theorem dX13_readSlip_52 : decode cX13_readSlip 52 = .ok (.iconst 1, 1) := by decide +kernel
theorem dX13_readSlip_53 : decode cX13_readSlip 53 = .ok (.iconst 3, 1) := by decide +kernel
theorem dX13_readSlip_54 : decode cX13_readSlip 54 = .ok (.invokevirtual 132, 3) := by decide +kernel
theorem dX13_readSlip_57 : decode cX13_readSlip 57 = .ok (.iastore, 1) := by decide +kernel
theorem dX13_readSlip_58 : decode cX13_readSlip 58 = .ok (.return_, 1) := by decide +kernel
theorem b_X13_readSlip_0  {σ : St} {Q : Res → St → Prop} (h : WP mX13_scan 0 [vR 14 0, vU] [] σ (CT mX13_readSlip 4 [vR 14 0, vU] [] Q)) : WP mX13_readSlip 0 [vR 14 0, vU] [] σ Q := by
  refine wp_aload_n dX13_readSlip_0 rfl rfl ?_
  refine wp_invV (N := mX13_scan) [] dX13_readSlip_1 ml_CustomValleyModel_69 mvX13_scan rfl rfl rfl rfl rfl (Nat.le_of_ble_eq_true rfl) (Nat.le_of_ble_eq_true rfl) (by decide) (by decide) (by decide) ?_
  exact h
theorem b_X13_readSlip_4  {σ : St} {Q : Res → St → Prop} (h : (in32 ((σ 14 0 15) - 1)) ∧ (WP mX13_look 0 [vR 14 0, vI 0, vI ((σ 14 0 15) - 1)] [] σ (CTT mX13_readSlip 15 [vR 14 0, vU] [] Q))) : WP mX13_readSlip 4 [vR 14 0, vU] [] σ Q := by
  refine wp_aload_n dX13_readSlip_4 rfl rfl ?_
  refine wp_iconst dX13_readSlip_5 rfl ?_
  refine wp_aload_n dX13_readSlip_6 rfl rfl ?_
  refine wp_getI dX13_readSlip_7 fl_CustomValleyModel_79 rfl rfl rfl ?_
  refine wp_iconst dX13_readSlip_10 rfl ?_
  have s1 := h.1
  replace h := h.2
  refine wp_isub dX13_readSlip_11 ?_ (h1 := s1.1) (h2 := s1.2)
  refine wp_invVT (N := mX13_look) mvX13_readSlip.1.1 [vI 0, vI ((σ 14 0 15) - 1)] dX13_readSlip_12 ml_CustomValleyModel_65 mvX13_look rfl rfl rfl rfl rfl (Nat.le_of_ble_eq_true rfl) (Nat.le_of_ble_eq_true rfl) (by decide) (by decide) (by decide) ?_
  exact h
theorem b_X13_readSlip_15 {t0 : Int} {σ : St} {Q : Res → St → Prop} (h : (0 ≤ t0 ∧ t0 < 4) ∧ ((((σ 76 0 t0.toNat) ≠ 0) → (WP mX13_need 0 [vR 14 0, vI 0, vI 3] [] σ (CTT mX13_readSlip 35 [vR 14 0, vI t0] [] Q))) ∧ (((σ 76 0 t0.toNat) = 0) → (WP mX13_need 0 [vR 14 0, vI 1, vI 3] [] σ (CTT mX13_readSlip 35 [vR 14 0, vI t0] [] Q))))) : WP mX13_readSlip 15 [vR 14 0, vU] [vI t0] σ Q := by
  refine wp_istore_n dX13_readSlip_15 rfl (by decide) rfl rfl ?_
  refine wp_aload_n dX13_readSlip_16 rfl rfl ?_
  refine wp_aload_n dX13_readSlip_17 rfl rfl ?_
  refine wp_getR dX13_readSlip_18 fl_CustomValleyModel_115 rfl rfl ?_
  refine wp_iload_n dX13_readSlip_21 rfl rfl ?_
  have s1 := h.1
  replace h := h.2
  refine wp_zaload dX13_readSlip_22 rfl rfl s1.1 s1.2 ?_
  refine wp_if_ne (tgt := 30) dX13_readSlip_23 (by decide) (fun hc => ?_) (fun hc => ?_)
  · replace h := h.1 hc
    refine wp_iconst dX13_readSlip_30 rfl ?_
    refine wp_iconst dX13_readSlip_31 rfl ?_
    refine wp_invVT (N := mX13_need) mvX13_readSlip.1.1 [vI 0, vI 3] dX13_readSlip_32 ml_CustomValleyModel_57 mvX13_need rfl rfl rfl rfl rfl (Nat.le_of_ble_eq_true rfl) (Nat.le_of_ble_eq_true rfl) (by decide) (by decide) (by decide) ?_
    exact h
  · replace h := h.2 hc
    refine wp_iconst dX13_readSlip_26 rfl ?_
    refine wp_goto (tgt := 31) dX13_readSlip_27 (by decide) ?_
    refine wp_iconst dX13_readSlip_31 rfl ?_
    refine wp_invVT (N := mX13_need) mvX13_readSlip.1.1 [vI 1, vI 3] dX13_readSlip_32 ml_CustomValleyModel_57 mvX13_need rfl rfl rfl rfl rfl (Nat.le_of_ble_eq_true rfl) (Nat.le_of_ble_eq_true rfl) (by decide) (by decide) (by decide) ?_
    exact h
theorem b_X13_readSlip_35 {x1 : Int} {σ : St} {Q : Res → St → Prop} (h : (0 ≤ x1 ∧ x1 < 4) ∧ (WP mX13_scan 0 [vR 14 0, vU] [] (up σ 76 0 x1.toNat 1) (CT mX13_readSlip 46 [vR 14 0, vI x1] [] Q))) : WP mX13_readSlip 35 [vR 14 0, vI x1] [] σ Q := by
  refine wp_aload_n dX13_readSlip_35 rfl rfl ?_
  refine wp_getR dX13_readSlip_36 fl_CustomValleyModel_115 rfl rfl ?_
  refine wp_iload_n dX13_readSlip_39 rfl rfl ?_
  refine wp_iconst dX13_readSlip_40 rfl ?_
  have s1 := h.1
  replace h := h.2
  refine wp_zastore dX13_readSlip_41 rfl rfl s1.1 s1.2 (by decide) ?_
  refine wp_aload_n dX13_readSlip_42 rfl rfl ?_
  refine wp_invV (N := mX13_scan) [] dX13_readSlip_43 ml_CustomValleyModel_69 mvX13_scan rfl rfl rfl rfl rfl (Nat.le_of_ble_eq_true rfl) (Nat.le_of_ble_eq_true rfl) (by decide) (by decide) (by decide) ?_
  exact h
theorem b_X13_readSlip_46 {x1 : Int} {σ : St} {Q : Res → St → Prop} (h : WP mX13_number 0 [vR 14 0, vI 1, vI 3, vU] [] σ (CTT mX13_readSlip 57 [vU, vU] [vI x1, vR 74 0] Q)) : WP mX13_readSlip 46 [vR 14 0, vI x1] [] σ Q := by
  refine wp_aload_n dX13_readSlip_46 rfl rfl ?_
  refine wp_getR dX13_readSlip_47 fl_CustomValleyModel_112 rfl rfl ?_
  refine wp_iload_n dX13_readSlip_50 rfl rfl ?_
  refine wp_aload_n dX13_readSlip_51 rfl rfl ?_
  refine wp_iconst dX13_readSlip_52 rfl ?_
  refine wp_iconst dX13_readSlip_53 rfl ?_
  refine wp_invVT (N := mX13_number) mvX13_readSlip.1.1 [vI 1, vI 3] dX13_readSlip_54 ml_CustomValleyModel_132 mvX13_number rfl rfl rfl rfl rfl (Nat.le_of_ble_eq_true rfl) (Nat.le_of_ble_eq_true rfl) (by decide) (by decide) (by decide) ?_
  exact WP.mono h (ctt_drop (lle_c (Or.inr rfl) (lle_c (Or.inr rfl) lle_n)))
theorem b_X13_readSlip_57 {t0 : Int} {t1 : Int} {σ : St} {Q : Res → St → Prop} (h : (0 ≤ t1 ∧ t1 < 4) ∧ (Q (.inl none) (up σ 74 0 t1.toNat t0))) : WP mX13_readSlip 57 [vU, vU] [vI t0, vI t1, vR 74 0] σ Q := by
  have s1 := h.1
  replace h := h.2
  refine wp_iastore dX13_readSlip_57 rfl rfl s1.1 s1.2 ?_
  exact wp_ret dX13_readSlip_58 rfl h
theorem dX13_readWorth_0 : decode cX13_readWorth 0 = .ok (.aload_n 0, 1) := by decide +kernel
theorem dX13_readWorth_1 : decode cX13_readWorth 1 = .ok (.invokevirtual 69, 3) := by decide +kernel
theorem dX13_readWorth_4 : decode cX13_readWorth 4 = .ok (.aload_n 0, 1) := by decide +kernel
theorem dX13_readWorth_5 : decode cX13_readWorth 5 = .ok (.iconst 0, 1) := by decide +kernel
theorem dX13_readWorth_6 : decode cX13_readWorth 6 = .ok (.aload_n 0, 1) := by decide +kernel
theorem dX13_readWorth_7 : decode cX13_readWorth 7 = .ok (.getfield 79, 3) := by decide +kernel
theorem dX13_readWorth_10 : decode cX13_readWorth 10 = .ok (.iconst 1, 1) := by decide +kernel
theorem dX13_readWorth_11 : decode cX13_readWorth 11 = .ok (.isub, 1) := by decide +kernel
theorem dX13_readWorth_12 : decode cX13_readWorth 12 = .ok (.invokevirtual 132, 3) := by decide +kernel
theorem dX13_readWorth_15 : decode cX13_readWorth 15 = .ok (.istore_n 1, 1) := by decide +kernel
theorem dX13_readWorth_16 : decode cX13_readWorth 16 = .ok (.aload_n 0, 1) := by decide +kernel
theorem dX13_readWorth_17 : decode cX13_readWorth 17 = .ok (.iconst 0, 1) := by decide +kernel
theorem dX13_readWorth_18 : decode cX13_readWorth 18 = .ok (.aload_n 0, 1) := by decide +kernel
theorem dX13_readWorth_19 : decode cX13_readWorth 19 = .ok (.getfield 79, 3) := by decide +kernel
theorem dX13_readWorth_22 : decode cX13_readWorth 22 = .ok (.iconst 1, 1) := by decide +kernel
theorem dX13_readWorth_23 : decode cX13_readWorth 23 = .ok (.isub, 1) := by decide +kernel
theorem dX13_readWorth_24 : decode cX13_readWorth 24 = .ok (.invokevirtual 65, 3) := by decide +kernel
theorem dX13_readWorth_27 : decode cX13_readWorth 27 = .ok (.istore_n 2, 1) := by decide +kernel
theorem dX13_readWorth_28 : decode cX13_readWorth 28 = .ok (.aload_n 0, 1) := by decide +kernel
theorem dX13_readWorth_29 : decode cX13_readWorth 29 = .ok (.aload_n 0, 1) := by decide +kernel
theorem dX13_readWorth_30 : decode cX13_readWorth 30 = .ok (.getfield 108, 3) := by decide +kernel
theorem dX13_readWorth_33 : decode cX13_readWorth 33 = .ok (.iconst 4, 1) := by decide +kernel
theorem dX13_readWorth_34 : decode cX13_readWorth 34 = .ok (.iload_n 1, 1) := by decide +kernel
theorem dX13_readWorth_35 : decode cX13_readWorth 35 = .ok (.imul, 1) := by decide +kernel
theorem dX13_readWorth_36 : decode cX13_readWorth 36 = .ok (.iload_n 2, 1) := by decide +kernel
theorem dX13_readWorth_37 : decode cX13_readWorth 37 = .ok (.iadd, 1) := by decide +kernel
theorem dX13_readWorth_38 : decode cX13_readWorth 38 = .ok (.baload, 1) := by decide +kernel
theorem dX13_readWorth_39 : decode cX13_readWorth 39 = .ok (.ifCond .ne 7, 3) := by decide +kernel
theorem dX13_readWorth_42 : decode cX13_readWorth 42 = .ok (.iconst 1, 1) := by decide +kernel
theorem dX13_readWorth_43 : decode cX13_readWorth 43 = .ok (.goto 4, 3) := by decide +kernel
theorem dX13_readWorth_46 : decode cX13_readWorth 46 = .ok (.iconst 0, 1) := by decide +kernel
theorem dX13_readWorth_47 : decode cX13_readWorth 47 = .ok (.iconst 3, 1) := by decide +kernel
theorem dX13_readWorth_48 : decode cX13_readWorth 48 = .ok (.invokevirtual 57, 3) := by decide +kernel
theorem dX13_readWorth_51 : decode cX13_readWorth 51 = .ok (.aload_n 0, 1) := by decide +kernel
theorem dX13_readWorth_52 : decode cX13_readWorth 52 = .ok (.invokevirtual 69, 3) := by decide +kernel
theorem dX13_readWorth_55 : decode cX13_readWorth 55 = .ok (.aload_n 0, 1) := by decide +kernel
theorem dX13_readWorth_56 : decode cX13_readWorth 56 = .ok (.getfield 108, 3) := by decide +kernel
theorem dX13_readWorth_59 : decode cX13_readWorth 59 = .ok (.iconst 4, 1) := by decide +kernel
theorem dX13_readWorth_60 : decode cX13_readWorth 60 = .ok (.iload_n 1, 1) := by decide +kernel
theorem dX13_readWorth_61 : decode cX13_readWorth 61 = .ok (.imul, 1) := by decide +kernel
theorem dX13_readWorth_62 : decode cX13_readWorth 62 = .ok (.iload_n 2, 1) := by decide +kernel
theorem dX13_readWorth_63 : decode cX13_readWorth 63 = .ok (.iadd, 1) := by decide +kernel
theorem dX13_readWorth_64 : decode cX13_readWorth 64 = .ok (.iconst 1, 1) := by decide +kernel
theorem dX13_readWorth_65 : decode cX13_readWorth 65 = .ok (.bastore, 1) := by decide +kernel
theorem dX13_readWorth_66 : decode cX13_readWorth 66 = .ok (.aload_n 0, 1) := by decide +kernel
theorem dX13_readWorth_67 : decode cX13_readWorth 67 = .ok (.getfield 104, 3) := by decide +kernel
theorem dX13_readWorth_70 : decode cX13_readWorth 70 = .ok (.iconst 4, 1) := by decide +kernel
theorem dX13_readWorth_71 : decode cX13_readWorth 71 = .ok (.iload_n 1, 1) := by decide +kernel
theorem dX13_readWorth_72 : decode cX13_readWorth 72 = .ok (.imul, 1) := by decide +kernel
theorem dX13_readWorth_73 : decode cX13_readWorth 73 = .ok (.iload_n 2, 1) := by decide +kernel
theorem dX13_readWorth_74 : decode cX13_readWorth 74 = .ok (.iadd, 1) := by decide +kernel
theorem dX13_readWorth_75 : decode cX13_readWorth 75 = .ok (.aload_n 0, 1) := by decide +kernel
theorem dX13_readWorth_76 : decode cX13_readWorth 76 = .ok (.iconst 0, 1) := by decide +kernel
theorem dX13_readWorth_77 : decode cX13_readWorth 77 = .ok (.bipush 99, 2) := by decide +kernel
theorem dX13_readWorth_79 : decode cX13_readWorth 79 = .ok (.invokevirtual 132, 3) := by decide +kernel
theorem dX13_readWorth_82 : decode cX13_readWorth 82 = .ok (.iastore, 1) := by decide +kernel
theorem dX13_readWorth_83 : decode cX13_readWorth 83 = .ok (.return_, 1) := by decide +kernel
theorem b_X13_readWorth_0  {σ : St} {Q : Res → St → Prop} (h : WP mX13_scan 0 [vR 14 0, vU] [] σ (CT mX13_readWorth 4 [vR 14 0, vU, vU] [] Q)) : WP mX13_readWorth 0 [vR 14 0, vU, vU] [] σ Q := by
  refine wp_aload_n dX13_readWorth_0 rfl rfl ?_
  refine wp_invV (N := mX13_scan) [] dX13_readWorth_1 ml_CustomValleyModel_69 mvX13_scan rfl rfl rfl rfl rfl (Nat.le_of_ble_eq_true rfl) (Nat.le_of_ble_eq_true rfl) (by decide) (by decide) (by decide) ?_
  exact h
theorem b_X13_readWorth_4  {σ : St} {Q : Res → St → Prop} (h : (in32 ((σ 14 0 15) - 1)) ∧ (WP mX13_number 0 [vR 14 0, vI 0, vI ((σ 14 0 15) - 1), vU] [] σ (CTT mX13_readWorth 15 [vR 14 0, vU, vU] [] Q))) : WP mX13_readWorth 4 [vR 14 0, vU, vU] [] σ Q := by
  refine wp_aload_n dX13_readWorth_4 rfl rfl ?_
  refine wp_iconst dX13_readWorth_5 rfl ?_
  refine wp_aload_n dX13_readWorth_6 rfl rfl ?_
  refine wp_getI dX13_readWorth_7 fl_CustomValleyModel_79 rfl rfl rfl ?_
  refine wp_iconst dX13_readWorth_10 rfl ?_
  have s1 := h.1
  replace h := h.2
  refine wp_isub dX13_readWorth_11 ?_ (h1 := s1.1) (h2 := s1.2)
  refine wp_invVT (N := mX13_number) mvX13_readWorth.1.1 [vI 0, vI ((σ 14 0 15) - 1)] dX13_readWorth_12 ml_CustomValleyModel_132 mvX13_number rfl rfl rfl rfl rfl (Nat.le_of_ble_eq_true rfl) (Nat.le_of_ble_eq_true rfl) (by decide) (by decide) (by decide) ?_
  exact h
theorem b_X13_readWorth_15 {t0 : Int} {σ : St} {Q : Res → St → Prop} (h : (in32 ((σ 14 0 15) - 1)) ∧ (WP mX13_look 0 [vR 14 0, vI 0, vI ((σ 14 0 15) - 1)] [] σ (CTT mX13_readWorth 27 [vR 14 0, vI t0, vU] [] Q))) : WP mX13_readWorth 15 [vR 14 0, vU, vU] [vI t0] σ Q := by
  refine wp_istore_n dX13_readWorth_15 rfl (by decide) rfl rfl ?_
  refine wp_aload_n dX13_readWorth_16 rfl rfl ?_
  refine wp_iconst dX13_readWorth_17 rfl ?_
  refine wp_aload_n dX13_readWorth_18 rfl rfl ?_
  refine wp_getI dX13_readWorth_19 fl_CustomValleyModel_79 rfl rfl rfl ?_
  refine wp_iconst dX13_readWorth_22 rfl ?_
  have s1 := h.1
  replace h := h.2
  refine wp_isub dX13_readWorth_23 ?_ (h1 := s1.1) (h2 := s1.2)
  refine wp_invVT (N := mX13_look) mvX13_readWorth.1.1 [vI 0, vI ((σ 14 0 15) - 1)] dX13_readWorth_24 ml_CustomValleyModel_65 mvX13_look rfl rfl rfl rfl rfl (Nat.le_of_ble_eq_true rfl) (Nat.le_of_ble_eq_true rfl) (by decide) (by decide) (by decide) ?_
  exact h
theorem b_X13_readWorth_27 {x1 : Int} {t0 : Int} {σ : St} {Q : Res → St → Prop} (h : (in32 (4 * x1)) ∧ ((in32 ((4 * x1) + t0)) ∧ ((0 ≤ (4 * x1) + t0 ∧ ((4 * x1) + t0) < 16) ∧ ((((σ 75 0 (((4 * x1) + t0).toNat)) ≠ 0) → (WP mX13_need 0 [vR 14 0, vI 0, vI 3] [] σ (CTT mX13_readWorth 51 [vR 14 0, vI x1, vI t0] [] Q))) ∧ (((σ 75 0 (((4 * x1) + t0).toNat)) = 0) → (WP mX13_need 0 [vR 14 0, vI 1, vI 3] [] σ (CTT mX13_readWorth 51 [vR 14 0, vI x1, vI t0] [] Q))))))) : WP mX13_readWorth 27 [vR 14 0, vI x1, vU] [vI t0] σ Q := by
  refine wp_istore_n dX13_readWorth_27 rfl (by decide) rfl rfl ?_
  refine wp_aload_n dX13_readWorth_28 rfl rfl ?_
  refine wp_aload_n dX13_readWorth_29 rfl rfl ?_
  refine wp_getR dX13_readWorth_30 fl_CustomValleyModel_108 rfl rfl ?_
  refine wp_iconst dX13_readWorth_33 rfl ?_
  refine wp_iload_n dX13_readWorth_34 rfl rfl ?_
  have s3 := h.1
  replace h := h.2
  refine wp_imul dX13_readWorth_35 ?_ (h1 := s3.1) (h2 := s3.2)
  refine wp_iload_n dX13_readWorth_36 rfl rfl ?_
  have s2 := h.1
  replace h := h.2
  refine wp_iadd dX13_readWorth_37 ?_ (h1 := s2.1) (h2 := s2.2)
  have s1 := h.1
  replace h := h.2
  refine wp_zaload dX13_readWorth_38 rfl rfl s1.1 s1.2 ?_
  refine wp_if_ne (tgt := 46) dX13_readWorth_39 (by decide) (fun hc => ?_) (fun hc => ?_)
  · replace h := h.1 hc
    refine wp_iconst dX13_readWorth_46 rfl ?_
    refine wp_iconst dX13_readWorth_47 rfl ?_
    refine wp_invVT (N := mX13_need) mvX13_readWorth.1.1 [vI 0, vI 3] dX13_readWorth_48 ml_CustomValleyModel_57 mvX13_need rfl rfl rfl rfl rfl (Nat.le_of_ble_eq_true rfl) (Nat.le_of_ble_eq_true rfl) (by decide) (by decide) (by decide) ?_
    exact h
  · replace h := h.2 hc
    refine wp_iconst dX13_readWorth_42 rfl ?_
    refine wp_goto (tgt := 47) dX13_readWorth_43 (by decide) ?_
    refine wp_iconst dX13_readWorth_47 rfl ?_
    refine wp_invVT (N := mX13_need) mvX13_readWorth.1.1 [vI 1, vI 3] dX13_readWorth_48 ml_CustomValleyModel_57 mvX13_need rfl rfl rfl rfl rfl (Nat.le_of_ble_eq_true rfl) (Nat.le_of_ble_eq_true rfl) (by decide) (by decide) (by decide) ?_
    exact h
theorem b_X13_readWorth_51 {x1 : Int} {x2 : Int} {σ : St} {Q : Res → St → Prop} (h : WP mX13_scan 0 [vR 14 0, vU] [] σ (CT mX13_readWorth 55 [vR 14 0, vI x1, vI x2] [] Q)) : WP mX13_readWorth 51 [vR 14 0, vI x1, vI x2] [] σ Q := by
  refine wp_aload_n dX13_readWorth_51 rfl rfl ?_
  refine wp_invV (N := mX13_scan) [] dX13_readWorth_52 ml_CustomValleyModel_69 mvX13_scan rfl rfl rfl rfl rfl (Nat.le_of_ble_eq_true rfl) (Nat.le_of_ble_eq_true rfl) (by decide) (by decide) (by decide) ?_
  exact h
theorem b_X13_readWorth_55 {x1 : Int} {x2 : Int} {σ : St} {Q : Res → St → Prop} (h : (in32 (4 * x1)) ∧ ((in32 ((4 * x1) + x2)) ∧ ((0 ≤ (4 * x1) + x2 ∧ ((4 * x1) + x2) < 16) ∧ ((in32 (4 * x1)) ∧ ((in32 ((4 * x1) + x2)) ∧ (WP mX13_number 0 [vR 14 0, vI 0, vI 99, vU] [] (up σ 75 0 (((4 * x1) + x2).toNat) 1) (CTT mX13_readWorth 82 [vU, vU, vU] [vI ((4 * x1) + x2), vR 68 0] Q))))))) : WP mX13_readWorth 55 [vR 14 0, vI x1, vI x2] [] σ Q := by
  refine wp_aload_n dX13_readWorth_55 rfl rfl ?_
  refine wp_getR dX13_readWorth_56 fl_CustomValleyModel_108 rfl rfl ?_
  refine wp_iconst dX13_readWorth_59 rfl ?_
  refine wp_iload_n dX13_readWorth_60 rfl rfl ?_
  have s5 := h.1
  replace h := h.2
  refine wp_imul dX13_readWorth_61 ?_ (h1 := s5.1) (h2 := s5.2)
  refine wp_iload_n dX13_readWorth_62 rfl rfl ?_
  have s4 := h.1
  replace h := h.2
  refine wp_iadd dX13_readWorth_63 ?_ (h1 := s4.1) (h2 := s4.2)
  refine wp_iconst dX13_readWorth_64 rfl ?_
  have s3 := h.1
  replace h := h.2
  refine wp_zastore dX13_readWorth_65 rfl rfl s3.1 s3.2 (by decide) ?_
  refine wp_aload_n dX13_readWorth_66 rfl rfl ?_
  refine wp_getR dX13_readWorth_67 fl_CustomValleyModel_104 rfl rfl ?_
  refine wp_iconst dX13_readWorth_70 rfl ?_
  refine wp_iload_n dX13_readWorth_71 rfl rfl ?_
  have s2 := h.1
  replace h := h.2
  refine wp_imul dX13_readWorth_72 ?_ (h1 := s2.1) (h2 := s2.2)
  refine wp_iload_n dX13_readWorth_73 rfl rfl ?_
  have s1 := h.1
  replace h := h.2
  refine wp_iadd dX13_readWorth_74 ?_ (h1 := s1.1) (h2 := s1.2)
  refine wp_aload_n dX13_readWorth_75 rfl rfl ?_
  refine wp_iconst dX13_readWorth_76 rfl ?_
  refine wp_bipush dX13_readWorth_77 rfl ?_
  refine wp_invVT (N := mX13_number) mvX13_readWorth.1.1 [vI 0, vI 99] dX13_readWorth_79 ml_CustomValleyModel_132 mvX13_number rfl rfl rfl rfl rfl (Nat.le_of_ble_eq_true rfl) (Nat.le_of_ble_eq_true rfl) (by decide) (by decide) (by decide) ?_
  exact WP.mono h (ctt_drop (lle_c (Or.inr rfl) (lle_c (Or.inr rfl) (lle_c (Or.inr rfl) lle_n))))
theorem b_X13_readWorth_82 {t0 : Int} {t1 : Int} {σ : St} {Q : Res → St → Prop} (h : (0 ≤ t1 ∧ t1 < 16) ∧ (Q (.inl none) (up σ 68 0 t1.toNat t0))) : WP mX13_readWorth 82 [vU, vU, vU] [vI t0, vI t1, vR 68 0] σ Q := by
  have s1 := h.1
  replace h := h.2
  refine wp_iastore dX13_readWorth_82 rfl rfl s1.1 s1.2 ?_
  exact wp_ret dX13_readWorth_83 rfl h
theorem dX2_isWord_0 : decode cX2_isWord 0 = .ok (.aload_n 0, 1) := by decide +kernel
theorem dX2_isWord_1 : decode cX2_isWord 1 = .ok (.getfield 35, 3) := by decide +kernel
theorem dX2_isWord_4 : decode cX2_isWord 4 = .ok (.iconst 1, 1) := by decide +kernel
theorem dX2_isWord_5 : decode cX2_isWord 5 = .ok (.if_icmp .ne 19, 3) := by decide +kernel
theorem dX2_isWord_8 : decode cX2_isWord 8 = .ok (.aload_n 0, 1) := by decide +kernel
theorem dX2_isWord_9 : decode cX2_isWord 9 = .ok (.getfield 56, 3) := by decide +kernel
theorem dX2_isWord_12 : decode cX2_isWord 12 = .ok (.aload_n 0, 1) := by decide +kernel
theorem dX2_isWord_13 : decode cX2_isWord 13 = .ok (.getfield 69, 3) := by decide +kernel
theorem dX2_isWord_16 : decode cX2_isWord 16 = .ok (.isub, 1) := by decide +kernel
theorem dX2_isWord_17 : decode cX2_isWord 17 = .ok (.aload_n 1, 1) := by decide +kernel
theorem dX2_isWord_18 : decode cX2_isWord 18 = .ok (.invokevirtual 99, 3) := by decide +kernel
theorem dX2_isWord_21 : decode cX2_isWord 21 = .ok (.if_icmp .eq 5, 3) := by decide +kernel
theorem dX2_isWord_24 : decode cX2_isWord 24 = .ok (.iconst 0, 1) := by decide +kernel
theorem dX2_isWord_25 : decode cX2_isWord 25 = .ok (.ireturn, 1) := by decide +kernel
theorem dX2_isWord_26 : decode cX2_isWord 26 = .ok (.iconst 0, 1) := by decide +kernel
theorem dX2_isWord_27 : decode cX2_isWord 27 = .ok (.istore_n 2, 1) := by decide +kernel
theorem dX2_isWord_28 : decode cX2_isWord 28 = .ok (.iload_n 2, 1) := by decide +kernel
theorem dX2_isWord_29 : decode cX2_isWord 29 = .ok (.aload_n 1, 1) := by decide +kernel
theorem dX2_isWord_30 : decode cX2_isWord 30 = .ok (.invokevirtual 99, 3) := by decide +kernel
theorem dX2_isWord_33 : decode cX2_isWord 33 = .ok (.if_icmp .ge 32, 3) := by decide +kernel
theorem dX2_isWord_36 : decode cX2_isWord 36 = .ok (.aload_n 0, 1) := by decide +kernel
theorem dX2_isWord_37 : decode cX2_isWord 37 = .ok (.getfield 22, 3) := by decide +kernel
theorem dX2_isWord_40 : decode cX2_isWord 40 = .ok (.aload_n 0, 1) := by decide +kernel
theorem dX2_isWord_41 : decode cX2_isWord 41 = .ok (.getfield 69, 3) := by decide +kernel
theorem dX2_isWord_44 : decode cX2_isWord 44 = .ok (.iload_n 2, 1) := by decide +kernel
theorem dX2_isWord_45 : decode cX2_isWord 45 = .ok (.iadd, 1) := by decide +kernel
theorem dX2_isWord_46 : decode cX2_isWord 46 = .ok (.invokevirtual 77, 3) := by decide +kernel
theorem dX2_isWord_49 : decode cX2_isWord 49 = .ok (.aload_n 1, 1) := by decide +kernel
theorem dX2_isWord_50 : decode cX2_isWord 50 = .ok (.iload_n 2, 1) := by decide +kernel
theorem dX2_isWord_51 : decode cX2_isWord 51 = .ok (.invokevirtual 104, 3) := by decide +kernel
theorem dX2_isWord_54 : decode cX2_isWord 54 = .ok (.if_icmp .eq 5, 3) := by decide +kernel
theorem dX2_isWord_57 : decode cX2_isWord 57 = .ok (.iconst 0, 1) := by decide +kernel
theorem dX2_isWord_58 : decode cX2_isWord 58 = .ok (.ireturn, 1) := by decide +kernel
theorem dX2_isWord_59 : decode cX2_isWord 59 = .ok (.iinc 2 1, 3) := by decide +kernel
theorem dX2_isWord_62 : decode cX2_isWord 62 = .ok (.goto (-34), 3) := by decide +kernel
theorem dX2_isWord_65 : decode cX2_isWord 65 = .ok (.iconst 1, 1) := by decide +kernel
theorem dX2_isWord_66 : decode cX2_isWord 66 = .ok (.ireturn, 1) := by decide +kernel
theorem b_X2_isWord_0 {j : Nat} {σ : St} {Q : Res → St → Prop} (h : (((σ 3 0 5) ≠ 1) → (Q (.inl (some (vI 0))) σ)) ∧ (((σ 3 0 5) = 1) → ((in32 ((σ 3 0 4) - (σ 3 0 6))) ∧ ((j < 11) ∧ (((((σ 3 0 4) - (σ 3 0 6)) = (((strLen.getD j 0 : Nat) : Int))) → (WP mX2_isWord 28 [vR 3 0, vR 1001 j, vI 0] [] σ Q)) ∧ ((((σ 3 0 4) - (σ 3 0 6)) ≠ (((strLen.getD j 0 : Nat) : Int))) → (Q (.inl (some (vI 0))) σ))))))) : WP mX2_isWord 0 [vR 3 0, vR 1001 j, vU] [] σ Q := by
  refine wp_aload_n dX2_isWord_0 rfl rfl ?_
  refine wp_getI dX2_isWord_1 fl_CustomValley_Reader_35 rfl rfl rfl ?_
  refine wp_iconst dX2_isWord_4 rfl ?_
  refine wp_icmp_ne (tgt := 24) dX2_isWord_5 (by decide) (fun hc => ?_) (fun hc => ?_)
  · replace h := h.1 hc
    refine wp_iconst dX2_isWord_24 rfl ?_
    exact wp_zret dX2_isWord_25 rfl h (by decide)
  · replace h := h.2 hc
    refine wp_aload_n dX2_isWord_8 rfl rfl ?_
    refine wp_getI dX2_isWord_9 fl_CustomValley_Reader_56 rfl rfl rfl ?_
    refine wp_aload_n dX2_isWord_12 rfl rfl ?_
    refine wp_getI dX2_isWord_13 fl_CustomValley_Reader_69 rfl rfl rfl ?_
    have s2 := h.1
    replace h := h.2
    refine wp_isub dX2_isWord_16 ?_ (h1 := s2.1) (h2 := s2.2)
    refine wp_aload_n dX2_isWord_17 rfl rfl ?_
    have s1 := h.1
    replace h := h.2
    refine wp_strlen dX2_isWord_18 sl_CustomValley_Reader_99 (by decide) (Nat.le_of_ble_eq_true rfl) s1 ?_
    refine wp_icmp_eq (tgt := 26) dX2_isWord_21 (by decide) (fun hc => ?_) (fun hc => ?_)
    · replace h := h.1 hc
      refine wp_iconst dX2_isWord_26 rfl ?_
      refine wp_istore_n dX2_isWord_27 rfl (by decide) rfl rfl ?_
      exact h
    · replace h := h.2 hc
      refine wp_iconst dX2_isWord_24 rfl ?_
      exact wp_zret dX2_isWord_25 rfl h (by decide)
theorem b_X2_isWord_28 {j : Nat} {x2 : Int} {σ : St} {Q : Res → St → Prop} (h : (j < 11) ∧ ((((((strLen.getD j 0 : Nat) : Int)) ≤ x2) → (Q (.inl (some (vI 1))) σ)) ∧ ((x2 < (((strLen.getD j 0 : Nat) : Int))) → ((in32 ((σ 3 0 6) + x2)) ∧ (((σ 8 0 1) ≤ 700) ∧ ((j < 11 ∧ 0 ≤ x2 ∧ x2 < ((strLen.getD j 0 : Nat) : Int)) ∧ ((((if 0 ≤ ((σ 3 0 6) + x2) ∧ ((σ 3 0 6) + x2) < (σ 8 0 1) then band (σ 46 0 ((((σ 3 0 6) + x2)).toNat)) 255 else -1) = (chr j x2.toNat)) → ((in32 (x2 + 1)) ∧ (WP mX2_isWord 28 [vR 3 0, vR 1001 j, vI (x2 + 1)] [] σ Q))) ∧ (((if 0 ≤ ((σ 3 0 6) + x2) ∧ ((σ 3 0 6) + x2) < (σ 8 0 1) then band (σ 46 0 ((((σ 3 0 6) + x2)).toNat)) 255 else -1) ≠ (chr j x2.toNat)) → (Q (.inl (some (vI 0))) σ))))))))) : WP mX2_isWord 28 [vR 3 0, vR 1001 j, vI x2] [] σ Q := by
  refine wp_iload_n dX2_isWord_28 rfl rfl ?_
  refine wp_aload_n dX2_isWord_29 rfl rfl ?_
  have s5 := h.1
  replace h := h.2
  refine wp_strlen dX2_isWord_30 sl_CustomValley_Reader_99 (by decide) (Nat.le_of_ble_eq_true rfl) s5 ?_
  refine wp_icmp_ge (tgt := 65) dX2_isWord_33 (by decide) (fun hc => ?_) (fun hc => ?_)
  · replace h := h.1 hc
    refine wp_iconst dX2_isWord_65 rfl ?_
    exact wp_zret dX2_isWord_66 rfl h (by decide)
  · replace h := h.2 hc
    refine wp_aload_n dX2_isWord_36 rfl rfl ?_
    refine wp_getR dX2_isWord_37 fl_CustomValley_Reader_22 rfl rfl ?_
    refine wp_aload_n dX2_isWord_40 rfl rfl ?_
    refine wp_getI dX2_isWord_41 fl_CustomValley_Reader_69 rfl rfl rfl ?_
    refine wp_iload_n dX2_isWord_44 rfl rfl ?_
    have s4 := h.1
    replace h := h.2
    refine wp_iadd dX2_isWord_45 ?_ (h1 := s4.1) (h2 := s4.2)
    have s3 := h.1
    replace h := h.2
    refine wp_invV (N := mX7_at) [vI ((σ 3 0 6) + x2)] dX2_isWord_46 ml_CustomValley_Reader_77 mvX7_at rfl rfl rfl rfl rfl (Nat.le_of_ble_eq_true rfl) (Nat.le_of_ble_eq_true rfl) (by decide) (by decide) (by decide) ?_
    refine pb_X7_at s3 ?_
    show WP mX2_isWord 49 [vR 3 0, vR 1001 j, vI x2] [vI (if 0 ≤ ((σ 3 0 6) + x2) ∧ ((σ 3 0 6) + x2) < (σ 8 0 1) then band (σ 46 0 ((((σ 3 0 6) + x2)).toNat)) 255 else -1)] σ Q
    refine wp_aload_n dX2_isWord_49 rfl rfl ?_
    refine wp_iload_n dX2_isWord_50 rfl rfl ?_
    have s2 := h.1
    replace h := h.2
    refine wp_charAt dX2_isWord_51 sl_CustomValley_Reader_104 (by decide) (Nat.le_of_ble_eq_true rfl) s2.1 s2.2.1 s2.2.2 ?_
    refine wp_icmp_eq (tgt := 59) dX2_isWord_54 (by decide) (fun hc => ?_) (fun hc => ?_)
    · replace h := h.1 hc
      have s1 := h.1
      replace h := h.2
      refine wp_iinc dX2_isWord_59 rfl (by decide) rfl rfl ?_ (h1 := s1.1) (h2 := s1.2)
      refine wp_goto (tgt := 28) dX2_isWord_62 (by decide) ?_
      exact h
    · replace h := h.2 hc
      refine wp_iconst dX2_isWord_57 rfl ?_
      exact wp_zret dX2_isWord_58 rfl h (by decide)
theorem dX13_readAnswer_0 : decode cX13_readAnswer 0 = .ok (.aload_n 0, 1) := by decide +kernel
theorem dX13_readAnswer_1 : decode cX13_readAnswer 1 = .ok (.aload_n 0, 1) := by decide +kernel
theorem dX13_readAnswer_2 : decode cX13_readAnswer 2 = .ok (.getfield 95, 3) := by decide +kernel
theorem dX13_readAnswer_5 : decode cX13_readAnswer 5 = .ok (.ifCond .ne 7, 3) := by decide +kernel
theorem dX13_readAnswer_8 : decode cX13_readAnswer 8 = .ok (.iconst 1, 1) := by decide +kernel
theorem dX13_readAnswer_9 : decode cX13_readAnswer 9 = .ok (.goto 4, 3) := by decide +kernel
theorem dX13_readAnswer_12 : decode cX13_readAnswer 12 = .ok (.iconst 0, 1) := by decide +kernel
theorem dX13_readAnswer_13 : decode cX13_readAnswer 13 = .ok (.iconst 3, 1) := by decide +kernel
theorem dX13_readAnswer_14 : decode cX13_readAnswer 14 = .ok (.invokevirtual 57, 3) := by decide +kernel
theorem dX13_readAnswer_17 : decode cX13_readAnswer 17 = .ok (.aload_n 0, 1) := by decide +kernel
theorem dX13_readAnswer_18 : decode cX13_readAnswer 18 = .ok (.iconst 1, 1) := by decide +kernel
theorem dX13_readAnswer_19 : decode cX13_readAnswer 19 = .ok (.putfield 95, 3) := by decide +kernel
theorem dX13_readAnswer_22 : decode cX13_readAnswer 22 = .ok (.aload_n 0, 1) := by decide +kernel
theorem dX13_readAnswer_23 : decode cX13_readAnswer 23 = .ok (.invokevirtual 69, 3) := by decide +kernel
theorem dX13_readAnswer_26 : decode cX13_readAnswer 26 = .ok (.aload_n 0, 1) := by decide +kernel
theorem dX13_readAnswer_27 : decode cX13_readAnswer 27 = .ok (.ldc 135, 2) := by decide +kernel
theorem dX13_readAnswer_29 : decode cX13_readAnswer 29 = .ok (.invokevirtual 137, 3) := by decide +kernel
theorem dX13_readAnswer_32 : decode cX13_readAnswer 32 = .ok (.ifCond .eq 7, 3) := by decide +kernel
theorem dX13_readAnswer_35 : decode cX13_readAnswer 35 = .ok (.iconst 0, 1) := by decide +kernel
theorem dX13_readAnswer_36 : decode cX13_readAnswer 36 = .ok (.goto 30, 3) := by decide +kernel
theorem dX13_readAnswer_39 : decode cX13_readAnswer 39 = .ok (.aload_n 0, 1) := by decide +kernel
theorem dX13_readAnswer_40 : decode cX13_readAnswer 40 = .ok (.ldc 141, 2) := by decide +kernel
theorem dX13_readAnswer_42 : decode cX13_readAnswer 42 = .ok (.invokevirtual 137, 3) := by decide +kernel
theorem dX13_readAnswer_45 : decode cX13_readAnswer 45 = .ok (.ifCond .eq 7, 3) := by decide +kernel
theorem dX13_readAnswer_48 : decode cX13_readAnswer 48 = .ok (.iconst 1, 1) := by decide +kernel
theorem dX13_readAnswer_49 : decode cX13_readAnswer 49 = .ok (.goto 17, 3) := by decide +kernel
theorem dX13_readAnswer_52 : decode cX13_readAnswer 52 = .ok (.aload_n 0, 1) := by decide +kernel
theorem dX13_readAnswer_53 : decode cX13_readAnswer 53 = .ok (.ldc 143, 2) := by decide +kernel
theorem dX13_readAnswer_55 : decode cX13_readAnswer 55 = .ok (.invokevirtual 137, 3) := by decide +kernel
theorem dX13_readAnswer_58 : decode cX13_readAnswer 58 = .ok (.ifCond .eq 7, 3) := by decide +kernel
theorem dX13_readAnswer_61 : decode cX13_readAnswer 61 = .ok (.iconst 2, 1) := by decide +kernel
theorem dX13_readAnswer_62 : decode cX13_readAnswer 62 = .ok (.goto 4, 3) := by decide +kernel
theorem dX13_readAnswer_65 : decode cX13_readAnswer 65 = .ok (.iconst (-1), 1) := by decide +kernel
theorem dX13_readAnswer_66 : decode cX13_readAnswer 66 = .ok (.istore_n 1, 1) := by decide +kernel
theorem dX13_readAnswer_67 : decode cX13_readAnswer 67 = .ok (.aload_n 0, 1) := by decide +kernel
theorem dX13_readAnswer_68 : decode cX13_readAnswer 68 = .ok (.iload_n 1, 1) := by decide +kernel
theorem dX13_readAnswer_69 : decode cX13_readAnswer 69 = .ok (.iconst (-1), 1) := by decide +kernel
theorem dX13_readAnswer_70 : decode cX13_readAnswer 70 = .ok (.if_icmp .eq 7, 3) := by decide +kernel
theorem dX13_readAnswer_73 : decode cX13_readAnswer 73 = .ok (.iconst 1, 1) := by decide +kernel
theorem dX13_readAnswer_74 : decode cX13_readAnswer 74 = .ok (.goto 4, 3) := by decide +kernel
theorem dX13_readAnswer_77 : decode cX13_readAnswer 77 = .ok (.iconst 0, 1) := by decide +kernel
theorem dX13_readAnswer_78 : decode cX13_readAnswer 78 = .ok (.iconst 1, 1) := by decide +kernel
theorem dX13_readAnswer_79 : decode cX13_readAnswer 79 = .ok (.invokevirtual 57, 3) := by decide +kernel
theorem dX13_readAnswer_82 : decode cX13_readAnswer 82 = .ok (.aload_n 0, 1) := by decide +kernel
theorem dX13_readAnswer_83 : decode cX13_readAnswer 83 = .ok (.iload_n 1, 1) := by decide +kernel
theorem dX13_readAnswer_84 : decode cX13_readAnswer 84 = .ok (.putfield 82, 3) := by decide +kernel
theorem dX13_readAnswer_87 : decode cX13_readAnswer 87 = .ok (.aload_n 0, 1) := by decide +kernel
theorem dX13_readAnswer_88 : decode cX13_readAnswer 88 = .ok (.invokevirtual 69, 3) := by decide +kernel
theorem dX13_readAnswer_91 : decode cX13_readAnswer 91 = .ok (.return_, 1) := by decide +kernel
theorem b_X13_readAnswer_0  {σ : St} {Q : Res → St → Prop} (h : (((σ 14 0 21) ≠ 0) → (WP mX13_need 0 [vR 14 0, vI 0, vI 3] [] σ (CTT mX13_readAnswer 17 [vR 14 0, vU] [] Q))) ∧ (((σ 14 0 21) = 0) → (WP mX13_need 0 [vR 14 0, vI 1, vI 3] [] σ (CTT mX13_readAnswer 17 [vR 14 0, vU] [] Q)))) : WP mX13_readAnswer 0 [vR 14 0, vU] [] σ Q := by
  refine wp_aload_n dX13_readAnswer_0 rfl rfl ?_
  refine wp_aload_n dX13_readAnswer_1 rfl rfl ?_
  refine wp_getI dX13_readAnswer_2 fl_CustomValleyModel_95 rfl rfl rfl ?_
  refine wp_if_ne (tgt := 12) dX13_readAnswer_5 (by decide) (fun hc => ?_) (fun hc => ?_)
  · replace h := h.1 hc
    refine wp_iconst dX13_readAnswer_12 rfl ?_
    refine wp_iconst dX13_readAnswer_13 rfl ?_
    refine wp_invVT (N := mX13_need) mvX13_readAnswer.1.1 [vI 0, vI 3] dX13_readAnswer_14 ml_CustomValleyModel_57 mvX13_need rfl rfl rfl rfl rfl (Nat.le_of_ble_eq_true rfl) (Nat.le_of_ble_eq_true rfl) (by decide) (by decide) (by decide) ?_
    exact h
  · replace h := h.2 hc
    refine wp_iconst dX13_readAnswer_8 rfl ?_
    refine wp_goto (tgt := 13) dX13_readAnswer_9 (by decide) ?_
    refine wp_iconst dX13_readAnswer_13 rfl ?_
    refine wp_invVT (N := mX13_need) mvX13_readAnswer.1.1 [vI 1, vI 3] dX13_readAnswer_14 ml_CustomValleyModel_57 mvX13_need rfl rfl rfl rfl rfl (Nat.le_of_ble_eq_true rfl) (Nat.le_of_ble_eq_true rfl) (by decide) (by decide) (by decide) ?_
    exact h
theorem b_X13_readAnswer_17  {σ : St} {Q : Res → St → Prop} (h : WP mX13_scan 0 [vR 14 0, vU] [] (up σ 14 0 21 1) (CT mX13_readAnswer 26 [vR 14 0, vU] [] Q)) : WP mX13_readAnswer 17 [vR 14 0, vU] [] σ Q := by
  refine wp_aload_n dX13_readAnswer_17 rfl rfl ?_
  refine wp_iconst dX13_readAnswer_18 rfl ?_
  refine wp_putZ dX13_readAnswer_19 fp_CustomValleyModel_95 rfl rfl rfl (by decide) ?_
  refine wp_aload_n dX13_readAnswer_22 rfl rfl ?_
  refine wp_invV (N := mX13_scan) [] dX13_readAnswer_23 ml_CustomValleyModel_69 mvX13_scan rfl rfl rfl rfl rfl (Nat.le_of_ble_eq_true rfl) (Nat.le_of_ble_eq_true rfl) (by decide) (by decide) (by decide) ?_
  exact h
theorem b_X13_readAnswer_26  {σ : St} {Q : Res → St → Prop} (h : WP mX13_is 0 [vR 14 0, vR 1001 8, vU, vU] [] σ (CT mX13_readAnswer 32 [vR 14 0, vU] [] Q)) : WP mX13_readAnswer 26 [vR 14 0, vU] [] σ Q := by
  refine wp_aload_n dX13_readAnswer_26 rfl rfl ?_
  refine wp_ldcS (i := 135) (j := 8) (tx := "best") dX13_readAnswer_27 (List.mem_of_getElem? (i := 14) rfl) ?_
  refine wp_invV (N := mX13_is) [vR 1001 8] dX13_readAnswer_29 ml_CustomValleyModel_137 mvX13_is rfl rfl rfl rfl rfl (Nat.le_of_ble_eq_true rfl) (Nat.le_of_ble_eq_true rfl) (by decide) (by decide) (by decide) ?_
  exact h
theorem b_X13_readAnswer_32 {t0 : Int} {σ : St} {Q : Res → St → Prop} (h : ((t0 = 0) → (WP mX13_is 0 [vR 14 0, vR 1001 9, vU, vU] [] σ (CT mX13_readAnswer 45 [vR 14 0, vU] [] Q))) ∧ ((t0 ≠ 0) → (WP mX13_need 0 [vR 14 0, vI 1, vI 1] [] σ (CTT mX13_readAnswer 82 [vR 14 0, vI 0] [] Q)))) : WP mX13_readAnswer 32 [vR 14 0, vU] [vI t0] σ Q := by
  refine wp_if_eq (tgt := 39) dX13_readAnswer_32 (by decide) (fun hc => ?_) (fun hc => ?_)
  · replace h := h.1 hc
    refine wp_aload_n dX13_readAnswer_39 rfl rfl ?_
    refine wp_ldcS (i := 141) (j := 9) (tx := "most") dX13_readAnswer_40 (List.mem_of_getElem? (i := 15) rfl) ?_
    refine wp_invV (N := mX13_is) [vR 1001 9] dX13_readAnswer_42 ml_CustomValleyModel_137 mvX13_is rfl rfl rfl rfl rfl (Nat.le_of_ble_eq_true rfl) (Nat.le_of_ble_eq_true rfl) (by decide) (by decide) (by decide) ?_
    exact h
  · replace h := h.2 hc
    refine wp_iconst dX13_readAnswer_35 rfl ?_
    refine wp_goto (tgt := 66) dX13_readAnswer_36 (by decide) ?_
    refine wp_istore_n dX13_readAnswer_66 rfl (by decide) rfl rfl ?_
    refine wp_aload_n dX13_readAnswer_67 rfl rfl ?_
    refine wp_iload_n dX13_readAnswer_68 rfl rfl ?_
    refine wp_iconst dX13_readAnswer_69 rfl ?_
    refine wp_icmp_eq (tgt := 77) dX13_readAnswer_70 (by decide) (fun hc => absurd hc (by decide)) (fun hc => ?_)
    refine wp_iconst dX13_readAnswer_73 rfl ?_
    refine wp_goto (tgt := 78) dX13_readAnswer_74 (by decide) ?_
    refine wp_iconst dX13_readAnswer_78 rfl ?_
    refine wp_invVT (N := mX13_need) mvX13_readAnswer.1.1 [vI 1, vI 1] dX13_readAnswer_79 ml_CustomValleyModel_57 mvX13_need rfl rfl rfl rfl rfl (Nat.le_of_ble_eq_true rfl) (Nat.le_of_ble_eq_true rfl) (by decide) (by decide) (by decide) ?_
    exact h
theorem b_X13_readAnswer_45 {t0 : Int} {σ : St} {Q : Res → St → Prop} (h : ((t0 = 0) → (WP mX13_is 0 [vR 14 0, vR 1001 10, vU, vU] [] σ (CT mX13_readAnswer 58 [vR 14 0, vU] [] Q))) ∧ ((t0 ≠ 0) → (WP mX13_need 0 [vR 14 0, vI 1, vI 1] [] σ (CTT mX13_readAnswer 82 [vR 14 0, vI 1] [] Q)))) : WP mX13_readAnswer 45 [vR 14 0, vU] [vI t0] σ Q := by
  refine wp_if_eq (tgt := 52) dX13_readAnswer_45 (by decide) (fun hc => ?_) (fun hc => ?_)
  · replace h := h.1 hc
    refine wp_aload_n dX13_readAnswer_52 rfl rfl ?_
    refine wp_ldcS (i := 143) (j := 10) (tx := "copy") dX13_readAnswer_53 (List.mem_of_getElem? (i := 16) rfl) ?_
    refine wp_invV (N := mX13_is) [vR 1001 10] dX13_readAnswer_55 ml_CustomValleyModel_137 mvX13_is rfl rfl rfl rfl rfl (Nat.le_of_ble_eq_true rfl) (Nat.le_of_ble_eq_true rfl) (by decide) (by decide) (by decide) ?_
    exact h
  · replace h := h.2 hc
    refine wp_iconst dX13_readAnswer_48 rfl ?_
    refine wp_goto (tgt := 66) dX13_readAnswer_49 (by decide) ?_
    refine wp_istore_n dX13_readAnswer_66 rfl (by decide) rfl rfl ?_
    refine wp_aload_n dX13_readAnswer_67 rfl rfl ?_
    refine wp_iload_n dX13_readAnswer_68 rfl rfl ?_
    refine wp_iconst dX13_readAnswer_69 rfl ?_
    refine wp_icmp_eq (tgt := 77) dX13_readAnswer_70 (by decide) (fun hc => absurd hc (by decide)) (fun hc => ?_)
    refine wp_iconst dX13_readAnswer_73 rfl ?_
    refine wp_goto (tgt := 78) dX13_readAnswer_74 (by decide) ?_
    refine wp_iconst dX13_readAnswer_78 rfl ?_
    refine wp_invVT (N := mX13_need) mvX13_readAnswer.1.1 [vI 1, vI 1] dX13_readAnswer_79 ml_CustomValleyModel_57 mvX13_need rfl rfl rfl rfl rfl (Nat.le_of_ble_eq_true rfl) (Nat.le_of_ble_eq_true rfl) (by decide) (by decide) (by decide) ?_
    exact h
theorem b_X13_readAnswer_58 {t0 : Int} {σ : St} {Q : Res → St → Prop} (h : ((t0 = 0) → (WP mX13_need 0 [vR 14 0, vI 0, vI 1] [] σ (CTT mX13_readAnswer 82 [vR 14 0, vI (-1)] [] Q))) ∧ ((t0 ≠ 0) → (WP mX13_need 0 [vR 14 0, vI 1, vI 1] [] σ (CTT mX13_readAnswer 82 [vR 14 0, vI 2] [] Q)))) : WP mX13_readAnswer 58 [vR 14 0, vU] [vI t0] σ Q := by
  refine wp_if_eq (tgt := 65) dX13_readAnswer_58 (by decide) (fun hc => ?_) (fun hc => ?_)
  · replace h := h.1 hc
    refine wp_iconst dX13_readAnswer_65 rfl ?_
    refine wp_istore_n dX13_readAnswer_66 rfl (by decide) rfl rfl ?_
    refine wp_aload_n dX13_readAnswer_67 rfl rfl ?_
    refine wp_iload_n dX13_readAnswer_68 rfl rfl ?_
    refine wp_iconst dX13_readAnswer_69 rfl ?_
    refine wp_icmp_eq (tgt := 77) dX13_readAnswer_70 (by decide) (fun hc => ?_) (fun hc => absurd hc (by decide))
    refine wp_iconst dX13_readAnswer_77 rfl ?_
    refine wp_iconst dX13_readAnswer_78 rfl ?_
    refine wp_invVT (N := mX13_need) mvX13_readAnswer.1.1 [vI 0, vI 1] dX13_readAnswer_79 ml_CustomValleyModel_57 mvX13_need rfl rfl rfl rfl rfl (Nat.le_of_ble_eq_true rfl) (Nat.le_of_ble_eq_true rfl) (by decide) (by decide) (by decide) ?_
    exact h
  · replace h := h.2 hc
    refine wp_iconst dX13_readAnswer_61 rfl ?_
    refine wp_goto (tgt := 66) dX13_readAnswer_62 (by decide) ?_
    refine wp_istore_n dX13_readAnswer_66 rfl (by decide) rfl rfl ?_
    refine wp_aload_n dX13_readAnswer_67 rfl rfl ?_
    refine wp_iload_n dX13_readAnswer_68 rfl rfl ?_
    refine wp_iconst dX13_readAnswer_69 rfl ?_
    refine wp_icmp_eq (tgt := 77) dX13_readAnswer_70 (by decide) (fun hc => absurd hc (by decide)) (fun hc => ?_)
    refine wp_iconst dX13_readAnswer_73 rfl ?_
    refine wp_goto (tgt := 78) dX13_readAnswer_74 (by decide) ?_
    refine wp_iconst dX13_readAnswer_78 rfl ?_
    refine wp_invVT (N := mX13_need) mvX13_readAnswer.1.1 [vI 1, vI 1] dX13_readAnswer_79 ml_CustomValleyModel_57 mvX13_need rfl rfl rfl rfl rfl (Nat.le_of_ble_eq_true rfl) (Nat.le_of_ble_eq_true rfl) (by decide) (by decide) (by decide) ?_
    exact h
theorem b_X13_readAnswer_82 {x1 : Int} {σ : St} {Q : Res → St → Prop} (h : WP mX13_scan 0 [vR 14 0, vU] [] (up σ 14 0 16 x1) (CT mX13_readAnswer 91 [vU, vU] [] Q)) : WP mX13_readAnswer 82 [vR 14 0, vI x1] [] σ Q := by
  refine wp_aload_n dX13_readAnswer_82 rfl rfl ?_
  refine wp_iload_n dX13_readAnswer_83 rfl rfl ?_
  refine wp_putI dX13_readAnswer_84 fp_CustomValleyModel_82 rfl rfl rfl ?_
  refine wp_aload_n dX13_readAnswer_87 rfl rfl ?_
  refine wp_invV (N := mX13_scan) [] dX13_readAnswer_88 ml_CustomValleyModel_69 mvX13_scan rfl rfl rfl rfl rfl (Nat.le_of_ble_eq_true rfl) (Nat.le_of_ble_eq_true rfl) (by decide) (by decide) (by decide) ?_
  exact WP.mono h (ct_drop (lle_c (Or.inr rfl) (lle_c (Or.inr rfl) lle_n)))
theorem b_X13_readAnswer_91  {σ : St} {Q : Res → St → Prop} (h : Q (.inl none) σ) : WP mX13_readAnswer 91 [vU, vU] [] σ Q := by
  exact wp_ret dX13_readAnswer_91 rfl h
theorem dX13_readClause_0 : decode cX13_readClause 0 = .ok (.aload_n 0, 1) := by decide +kernel
theorem dX13_readClause_1 : decode cX13_readClause 1 = .ok (.ldc 145, 2) := by decide +kernel
theorem dX13_readClause_3 : decode cX13_readClause 3 = .ok (.invokevirtual 137, 3) := by decide +kernel
theorem dX13_readClause_6 : decode cX13_readClause 6 = .ok (.ifCond .eq 10, 3) := by decide +kernel
theorem dX13_readClause_9 : decode cX13_readClause 9 = .ok (.aload_n 0, 1) := by decide +kernel
theorem dX13_readClause_10 : decode cX13_readClause 10 = .ok (.invokevirtual 147, 3) := by decide +kernel
theorem dX13_readClause_13 : decode cX13_readClause 13 = .ok (.goto 167, 3) := by decide +kernel
theorem dX13_readClause_16 : decode cX13_readClause 16 = .ok (.aload_n 0, 1) := by decide +kernel
theorem dX13_readClause_17 : decode cX13_readClause 17 = .ok (.ldc 149, 2) := by decide +kernel
theorem dX13_readClause_19 : decode cX13_readClause 19 = .ok (.invokevirtual 137, 3) := by decide +kernel
theorem dX13_readClause_22 : decode cX13_readClause 22 = .ok (.ifCond .eq 10, 3) := by decide +kernel
theorem dX13_readClause_25 : decode cX13_readClause 25 = .ok (.aload_n 0, 1) := by decide +kernel
theorem dX13_readClause_26 : decode cX13_readClause 26 = .ok (.invokevirtual 151, 3) := by decide +kernel
theorem dX13_readClause_29 : decode cX13_readClause 29 = .ok (.goto 151, 3) := by decide +kernel
theorem dX13_readClause_32 : decode cX13_readClause 32 = .ok (.aload_n 0, 1) := by decide +kernel
theorem dX13_readClause_33 : decode cX13_readClause 33 = .ok (.ldc 153, 2) := by decide +kernel
theorem dX13_readClause_35 : decode cX13_readClause 35 = .ok (.invokevirtual 137, 3) := by decide +kernel
theorem dX13_readClause_38 : decode cX13_readClause 38 = .ok (.ifCond .eq 10, 3) := by decide +kernel
theorem dX13_readClause_41 : decode cX13_readClause 41 = .ok (.aload_n 0, 1) := by decide +kernel
theorem dX13_readClause_42 : decode cX13_readClause 42 = .ok (.invokevirtual 155, 3) := by decide +kernel
theorem dX13_readClause_45 : decode cX13_readClause 45 = .ok (.goto 135, 3) := by decide +kernel
theorem dX13_readClause_48 : decode cX13_readClause 48 = .ok (.aload_n 0, 1) := by decide +kernel
theorem dX13_readClause_49 : decode cX13_readClause 49 = .ok (.ldc 157, 2) := by decide +kernel
theorem dX13_readClause_51 : decode cX13_readClause 51 = .ok (.invokevirtual 137, 3) := by decide +kernel
theorem dX13_readClause_54 : decode cX13_readClause 54 = .ok (.ifCond .eq 32, 3) := by decide +kernel
theorem dX13_readClause_57 : decode cX13_readClause 57 = .ok (.aload_n 0, 1) := by decide +kernel
theorem dX13_readClause_58 : decode cX13_readClause 58 = .ok (.aload_n 0, 1) := by decide +kernel
theorem dX13_readClause_59 : decode cX13_readClause 59 = .ok (.getfield 85, 3) := by decide +kernel
theorem dX13_readClause_62 : decode cX13_readClause 62 = .ok (.ifCond .ne 7, 3) := by decide +kernel
theorem dX13_readClause_65 : decode cX13_readClause 65 = .ok (.iconst 1, 1) := by decide +kernel
theorem dX13_readClause_66 : decode cX13_readClause 66 = .ok (.goto 4, 3) := by decide +kernel
theorem dX13_readClause_69 : decode cX13_readClause 69 = .ok (.iconst 0, 1) := by decide +kernel
theorem dX13_readClause_70 : decode cX13_readClause 70 = .ok (.iconst 3, 1) := by decide +kernel
theorem dX13_readClause_71 : decode cX13_readClause 71 = .ok (.invokevirtual 57, 3) := by decide +kernel
theorem dX13_readClause_74 : decode cX13_readClause 74 = .ok (.aload_n 0, 1) := by decide +kernel
theorem dX13_readClause_75 : decode cX13_readClause 75 = .ok (.iconst 1, 1) := by decide +kernel
theorem dX13_readClause_76 : decode cX13_readClause 76 = .ok (.putfield 85, 3) := by decide +kernel
theorem dX13_readClause_79 : decode cX13_readClause 79 = .ok (.aload_n 0, 1) := by decide +kernel
theorem dX13_readClause_80 : decode cX13_readClause 80 = .ok (.invokevirtual 69, 3) := by decide +kernel
theorem dX13_readClause_83 : decode cX13_readClause 83 = .ok (.goto 97, 3) := by decide +kernel
theorem dX13_readClause_86 : decode cX13_readClause 86 = .ok (.aload_n 0, 1) := by decide +kernel
theorem dX13_readClause_87 : decode cX13_readClause 87 = .ok (.ldc 159, 2) := by decide +kernel
theorem dX13_readClause_89 : decode cX13_readClause 89 = .ok (.invokevirtual 137, 3) := by decide +kernel
theorem dX13_readClause_92 : decode cX13_readClause 92 = .ok (.istore_n 1, 1) := by decide +kernel
theorem dX13_readClause_93 : decode cX13_readClause 93 = .ok (.aload_n 0, 1) := by decide +kernel
theorem dX13_readClause_94 : decode cX13_readClause 94 = .ok (.ldc 161, 2) := by decide +kernel
theorem dX13_readClause_96 : decode cX13_readClause 96 = .ok (.invokevirtual 137, 3) := by decide +kernel
theorem dX13_readClause_99 : decode cX13_readClause 99 = .ok (.istore_n 2, 1) := by decide +kernel
theorem dX13_readClause_100 : decode cX13_readClause 100 = .ok (.aload_n 0, 1) := by decide +kernel
theorem dX13_readClause_101 : decode cX13_readClause 101 = .ok (.ldc 163, 2) := by decide +kernel
theorem dX13_readClause_103 : decode cX13_readClause 103 = .ok (.invokevirtual 137, 3) := by decide +kernel
theorem dX13_readClause_106 : decode cX13_readClause 106 = .ok (.istore_n 3, 1) := by decide +kernel
theorem dX13_readClause_107 : decode cX13_readClause 107 = .ok (.aload_n 0, 1) := by decide +kernel
theorem dX13_readClause_108 : decode cX13_readClause 108 = .ok (.iload_n 1, 1) := by decide +kernel
theorem dX13_readClause_109 : decode cX13_readClause 109 = .ok (.ifCond .ne 20, 3) := by decide +kernel
theorem dX13_readClause_112 : decode cX13_readClause 112 = .ok (.iload_n 2, 1) := by decide +kernel
theorem dX13_readClause_113 : decode cX13_readClause 113 = .ok (.ifCond .ne 16, 3) := by decide +kernel
theorem dX13_readClause_116 : decode cX13_readClause 116 = .ok (.iload_n 3, 1) := by decide +kernel
theorem dX13_readClause_117 : decode cX13_readClause 117 = .ok (.ifCond .ne 12, 3) := by decide +kernel
theorem dX13_readClause_120 : decode cX13_readClause 120 = .ok (.aload_n 0, 1) := by decide +kernel
theorem dX13_readClause_121 : decode cX13_readClause 121 = .ok (.ldc 165, 2) := by decide +kernel
theorem dX13_readClause_123 : decode cX13_readClause 123 = .ok (.invokevirtual 137, 3) := by decide +kernel
theorem dX13_readClause_126 : decode cX13_readClause 126 = .ok (.ifCond .eq 7, 3) := by decide +kernel
theorem dX13_readClause_129 : decode cX13_readClause 129 = .ok (.iconst 1, 1) := by decide +kernel
theorem dX13_readClause_130 : decode cX13_readClause 130 = .ok (.goto 4, 3) := by decide +kernel
theorem dX13_readClause_133 : decode cX13_readClause 133 = .ok (.iconst 0, 1) := by decide +kernel
theorem dX13_readClause_134 : decode cX13_readClause 134 = .ok (.iconst 1, 1) := by decide +kernel
theorem dX13_readClause_135 : decode cX13_readClause 135 = .ok (.invokevirtual 57, 3) := by decide +kernel
theorem dX13_readClause_138 : decode cX13_readClause 138 = .ok (.aload_n 0, 1) := by decide +kernel
theorem dX13_readClause_139 : decode cX13_readClause 139 = .ok (.iconst 1, 1) := by decide +kernel
theorem dX13_readClause_140 : decode cX13_readClause 140 = .ok (.putfield 101, 3) := by decide +kernel
theorem dX13_readClause_143 : decode cX13_readClause 143 = .ok (.iload_n 1, 1) := by decide +kernel
theorem dX13_readClause_144 : decode cX13_readClause 144 = .ok (.ifCond .eq 10, 3) := by decide +kernel
theorem dX13_readClause_147 : decode cX13_readClause 147 = .ok (.aload_n 0, 1) := by decide +kernel
theorem dX13_readClause_148 : decode cX13_readClause 148 = .ok (.invokevirtual 167, 3) := by decide +kernel
theorem dX13_readClause_151 : decode cX13_readClause 151 = .ok (.goto 29, 3) := by decide +kernel
theorem dX13_readClause_154 : decode cX13_readClause 154 = .ok (.iload_n 2, 1) := by decide +kernel
theorem dX13_readClause_155 : decode cX13_readClause 155 = .ok (.ifCond .eq 10, 3) := by decide +kernel
theorem dX13_readClause_158 : decode cX13_readClause 158 = .ok (.aload_n 0, 1) := by decide +kernel
theorem dX13_readClause_159 : decode cX13_readClause 159 = .ok (.invokevirtual 170, 3) := by decide +kernel
theorem dX13_readClause_162 : decode cX13_readClause 162 = .ok (.goto 18, 3) := by decide +kernel
theorem dX13_readClause_165 : decode cX13_readClause 165 = .ok (.iload_n 3, 1) := by decide +kernel
theorem dX13_readClause_166 : decode cX13_readClause 166 = .ok (.ifCond .eq 10, 3) := by decide +kernel
theorem dX13_readClause_169 : decode cX13_readClause 169 = .ok (.aload_n 0, 1) := by decide +kernel
theorem dX13_readClause_170 : decode cX13_readClause 170 = .ok (.invokevirtual 172, 3) := by decide +kernel
theorem dX13_readClause_173 : decode cX13_readClause 173 = .ok (.goto 7, 3) := by decide +kernel
theorem dX13_readClause_176 : decode cX13_readClause 176 = .ok (.aload_n 0, 1) := by decide +kernel
theorem dX13_readClause_177 : decode cX13_readClause 177 = .ok (.invokevirtual 174, 3) := by decide +kernel
theorem dX13_readClause_180 : decode cX13_readClause 180 = .ok (.aload_n 0, 1) := by decide +kernel
theorem dX13_readClause_181 : decode cX13_readClause 181 = .ok (.aload_n 0, 1) := by decide +kernel
theorem dX13_readClause_182 : decode cX13_readClause 182 = .ok (.getfield 31, 3) := by decide +kernel
theorem dX13_readClause_185 : decode cX13_readClause 185 = .ok (.iconst 3, 1) := by decide +kernel
theorem dX13_readClause_186 : decode cX13_readClause 186 = .ok (.if_icmp .ne 7, 3) := by decide +kernel
theorem dX13_readClause_189 : decode cX13_readClause 189 = .ok (.iconst 1, 1) := by decide +kernel
theorem dX13_readClause_190 : decode cX13_readClause 190 = .ok (.goto 4, 3) := by decide +kernel
theorem dX13_readClause_193 : decode cX13_readClause 193 = .ok (.iconst 0, 1) := by decide +kernel
theorem dX13_readClause_194 : decode cX13_readClause 194 = .ok (.iconst 1, 1) := by decide +kernel
theorem dX13_readClause_195 : decode cX13_readClause 195 = .ok (.invokevirtual 57, 3) := by decide +kernel
theorem dX13_readClause_198 : decode cX13_readClause 198 = .ok (.aload_n 0, 1) := by decide +kernel
theorem dX13_readClause_199 : decode cX13_readClause 199 = .ok (.invokevirtual 69, 3) := by decide +kernel
theorem dX13_readClause_202 : decode cX13_readClause 202 = .ok (.return_, 1) := by decide +kernel
theorem b_X13_readClause_0  {σ : St} {Q : Res → St → Prop} (h : WP mX13_is 0 [vR 14 0, vR 1001 0, vU, vU] [] σ (CT mX13_readClause 6 [vR 14 0, vU, vU, vU] [] Q)) : WP mX13_readClause 0 [vR 14 0, vU, vU, vU] [] σ Q := by
  refine wp_aload_n dX13_readClause_0 rfl rfl ?_
  refine wp_ldcS (i := 145) (j := 0) (tx := "people") dX13_readClause_1 (List.mem_of_getElem? (i := 11) rfl) ?_
  refine wp_invV (N := mX13_is) [vR 1001 0] dX13_readClause_3 ml_CustomValleyModel_137 mvX13_is rfl rfl rfl rfl rfl (Nat.le_of_ble_eq_true rfl) (Nat.le_of_ble_eq_true rfl) (by decide) (by decide) (by decide) ?_
  exact h
theorem b_X13_readClause_6 {t0 : Int} {σ : St} {Q : Res → St → Prop} (h : ((t0 = 0) → (WP mX13_is 0 [vR 14 0, vR 1001 1, vU, vU] [] σ (CT mX13_readClause 22 [vR 14 0, vU, vU, vU] [] Q))) ∧ ((t0 ≠ 0) → (WP mX13_readPeople 0 [vR 14 0, vU] [] σ (CTT mX13_readClause 13 [vR 14 0, vU, vU, vU] [] Q)))) : WP mX13_readClause 6 [vR 14 0, vU, vU, vU] [vI t0] σ Q := by
  refine wp_if_eq (tgt := 16) dX13_readClause_6 (by decide) (fun hc => ?_) (fun hc => ?_)
  · replace h := h.1 hc
    refine wp_aload_n dX13_readClause_16 rfl rfl ?_
    refine wp_ldcS (i := 149) (j := 1) (tx := "habits") dX13_readClause_17 (List.mem_of_getElem? (i := 12) rfl) ?_
    refine wp_invV (N := mX13_is) [vR 1001 1] dX13_readClause_19 ml_CustomValleyModel_137 mvX13_is rfl rfl rfl rfl rfl (Nat.le_of_ble_eq_true rfl) (Nat.le_of_ble_eq_true rfl) (by decide) (by decide) (by decide) ?_
    exact h
  · replace h := h.2 hc
    refine wp_aload_n dX13_readClause_9 rfl rfl ?_
    refine wp_invVT (N := mX13_readPeople) mvX13_readClause.1.1 [] dX13_readClause_10 ml_CustomValleyModel_147 mvX13_readPeople rfl rfl rfl rfl rfl (Nat.le_of_ble_eq_true rfl) (Nat.le_of_ble_eq_true rfl) (by decide) (by decide) (by decide) ?_
    exact h
theorem b_X13_readClause_13  {σ : St} {Q : Res → St → Prop} (h : WP mX13_readClause 180 [vR 14 0, vU, vU, vU] [] σ Q) : WP mX13_readClause 13 [vR 14 0, vU, vU, vU] [] σ Q := by
  refine wp_goto (tgt := 180) dX13_readClause_13 (by decide) ?_
  exact h
theorem b_X13_readClause_22 {t0 : Int} {σ : St} {Q : Res → St → Prop} (h : ((t0 = 0) → (WP mX13_is 0 [vR 14 0, vR 1001 4, vU, vU] [] σ (CT mX13_readClause 38 [vR 14 0, vU, vU, vU] [] Q))) ∧ ((t0 ≠ 0) → (WP mX13_readHabits 0 [vR 14 0, vU] [] σ (CTT mX13_readClause 29 [vR 14 0, vU, vU, vU] [] Q)))) : WP mX13_readClause 22 [vR 14 0, vU, vU, vU] [vI t0] σ Q := by
  refine wp_if_eq (tgt := 32) dX13_readClause_22 (by decide) (fun hc => ?_) (fun hc => ?_)
  · replace h := h.1 hc
    refine wp_aload_n dX13_readClause_32 rfl rfl ?_
    refine wp_ldcS (i := 153) (j := 4) (tx := "answer") dX13_readClause_33 (List.mem_of_getElem? (i := 13) rfl) ?_
    refine wp_invV (N := mX13_is) [vR 1001 4] dX13_readClause_35 ml_CustomValleyModel_137 mvX13_is rfl rfl rfl rfl rfl (Nat.le_of_ble_eq_true rfl) (Nat.le_of_ble_eq_true rfl) (by decide) (by decide) (by decide) ?_
    exact h
  · replace h := h.2 hc
    refine wp_aload_n dX13_readClause_25 rfl rfl ?_
    refine wp_invVT (N := mX13_readHabits) mvX13_readClause.1.1 [] dX13_readClause_26 ml_CustomValleyModel_151 mvX13_readHabits rfl rfl rfl rfl rfl (Nat.le_of_ble_eq_true rfl) (Nat.le_of_ble_eq_true rfl) (by decide) (by decide) (by decide) ?_
    exact h
theorem b_X13_readClause_29  {σ : St} {Q : Res → St → Prop} (h : WP mX13_readClause 180 [vR 14 0, vU, vU, vU] [] σ Q) : WP mX13_readClause 29 [vR 14 0, vU, vU, vU] [] σ Q := by
  refine wp_goto (tgt := 180) dX13_readClause_29 (by decide) ?_
  exact h
theorem b_X13_readClause_38 {t0 : Int} {σ : St} {Q : Res → St → Prop} (h : ((t0 = 0) → (WP mX13_is 0 [vR 14 0, vR 1001 5, vU, vU] [] σ (CT mX13_readClause 54 [vR 14 0, vU, vU, vU] [] Q))) ∧ ((t0 ≠ 0) → (WP mX13_readAnswer 0 [vR 14 0, vU] [] σ (CTT mX13_readClause 45 [vR 14 0, vU, vU, vU] [] Q)))) : WP mX13_readClause 38 [vR 14 0, vU, vU, vU] [vI t0] σ Q := by
  refine wp_if_eq (tgt := 48) dX13_readClause_38 (by decide) (fun hc => ?_) (fun hc => ?_)
  · replace h := h.1 hc
    refine wp_aload_n dX13_readClause_48 rfl rfl ?_
    refine wp_ldcS (i := 157) (j := 5) (tx := "stays") dX13_readClause_49 (List.mem_of_getElem? (i := 17) rfl) ?_
    refine wp_invV (N := mX13_is) [vR 1001 5] dX13_readClause_51 ml_CustomValleyModel_137 mvX13_is rfl rfl rfl rfl rfl (Nat.le_of_ble_eq_true rfl) (Nat.le_of_ble_eq_true rfl) (by decide) (by decide) (by decide) ?_
    exact h
  · replace h := h.2 hc
    refine wp_aload_n dX13_readClause_41 rfl rfl ?_
    refine wp_invVT (N := mX13_readAnswer) mvX13_readClause.1.1 [] dX13_readClause_42 ml_CustomValleyModel_155 mvX13_readAnswer rfl rfl rfl rfl rfl (Nat.le_of_ble_eq_true rfl) (Nat.le_of_ble_eq_true rfl) (by decide) (by decide) (by decide) ?_
    exact h
theorem b_X13_readClause_45  {σ : St} {Q : Res → St → Prop} (h : WP mX13_readClause 180 [vR 14 0, vU, vU, vU] [] σ Q) : WP mX13_readClause 45 [vR 14 0, vU, vU, vU] [] σ Q := by
  refine wp_goto (tgt := 180) dX13_readClause_45 (by decide) ?_
  exact h
theorem b_X13_readClause_54 {t0 : Int} {σ : St} {Q : Res → St → Prop} (h : ((t0 = 0) → (WP mX13_is 0 [vR 14 0, vR 1001 2, vU, vU] [] σ (CT mX13_readClause 92 [vR 14 0, vU, vU, vU] [] Q))) ∧ ((t0 ≠ 0) → ((((σ 14 0 18) ≠ 0) → (WP mX13_need 0 [vR 14 0, vI 0, vI 3] [] σ (CTT mX13_readClause 74 [vR 14 0, vU, vU, vU] [] Q))) ∧ (((σ 14 0 18) = 0) → (WP mX13_need 0 [vR 14 0, vI 1, vI 3] [] σ (CTT mX13_readClause 74 [vR 14 0, vU, vU, vU] [] Q)))))) : WP mX13_readClause 54 [vR 14 0, vU, vU, vU] [vI t0] σ Q := by
  refine wp_if_eq (tgt := 86) dX13_readClause_54 (by decide) (fun hc => ?_) (fun hc => ?_)
  · replace h := h.1 hc
    refine wp_aload_n dX13_readClause_86 rfl rfl ?_
    refine wp_ldcS (i := 159) (j := 2) (tx := "worth") dX13_readClause_87 (List.mem_of_getElem? (i := 18) rfl) ?_
    refine wp_invV (N := mX13_is) [vR 1001 2] dX13_readClause_89 ml_CustomValleyModel_137 mvX13_is rfl rfl rfl rfl rfl (Nat.le_of_ble_eq_true rfl) (Nat.le_of_ble_eq_true rfl) (by decide) (by decide) (by decide) ?_
    exact h
  · replace h := h.2 hc
    refine wp_aload_n dX13_readClause_57 rfl rfl ?_
    refine wp_aload_n dX13_readClause_58 rfl rfl ?_
    refine wp_getI dX13_readClause_59 fl_CustomValleyModel_85 rfl rfl rfl ?_
    refine wp_if_ne (tgt := 69) dX13_readClause_62 (by decide) (fun hc => ?_) (fun hc => ?_)
    · replace h := h.1 hc
      refine wp_iconst dX13_readClause_69 rfl ?_
      refine wp_iconst dX13_readClause_70 rfl ?_
      refine wp_invVT (N := mX13_need) mvX13_readClause.1.1 [vI 0, vI 3] dX13_readClause_71 ml_CustomValleyModel_57 mvX13_need rfl rfl rfl rfl rfl (Nat.le_of_ble_eq_true rfl) (Nat.le_of_ble_eq_true rfl) (by decide) (by decide) (by decide) ?_
      exact h
    · replace h := h.2 hc
      refine wp_iconst dX13_readClause_65 rfl ?_
      refine wp_goto (tgt := 70) dX13_readClause_66 (by decide) ?_
      refine wp_iconst dX13_readClause_70 rfl ?_
      refine wp_invVT (N := mX13_need) mvX13_readClause.1.1 [vI 1, vI 3] dX13_readClause_71 ml_CustomValleyModel_57 mvX13_need rfl rfl rfl rfl rfl (Nat.le_of_ble_eq_true rfl) (Nat.le_of_ble_eq_true rfl) (by decide) (by decide) (by decide) ?_
      exact h
theorem b_X13_readClause_74  {σ : St} {Q : Res → St → Prop} (h : WP mX13_scan 0 [vR 14 0, vU] [] (up σ 14 0 18 1) (CT mX13_readClause 83 [vR 14 0, vU, vU, vU] [] Q)) : WP mX13_readClause 74 [vR 14 0, vU, vU, vU] [] σ Q := by
  refine wp_aload_n dX13_readClause_74 rfl rfl ?_
  refine wp_iconst dX13_readClause_75 rfl ?_
  refine wp_putZ dX13_readClause_76 fp_CustomValleyModel_85 rfl rfl rfl (by decide) ?_
  refine wp_aload_n dX13_readClause_79 rfl rfl ?_
  refine wp_invV (N := mX13_scan) [] dX13_readClause_80 ml_CustomValleyModel_69 mvX13_scan rfl rfl rfl rfl rfl (Nat.le_of_ble_eq_true rfl) (Nat.le_of_ble_eq_true rfl) (by decide) (by decide) (by decide) ?_
  exact h
theorem b_X13_readClause_83  {σ : St} {Q : Res → St → Prop} (h : WP mX13_readClause 180 [vR 14 0, vU, vU, vU] [] σ Q) : WP mX13_readClause 83 [vR 14 0, vU, vU, vU] [] σ Q := by
  refine wp_goto (tgt := 180) dX13_readClause_83 (by decide) ?_
  exact h
theorem b_X13_readClause_92 {t0 : Int} {σ : St} {Q : Res → St → Prop} (h : WP mX13_is 0 [vR 14 0, vR 1001 3, vU, vU] [] σ (CT mX13_readClause 99 [vR 14 0, vI t0, vU, vU] [] Q)) : WP mX13_readClause 92 [vR 14 0, vU, vU, vU] [vI t0] σ Q := by
  refine wp_istore_n dX13_readClause_92 rfl (by decide) rfl rfl ?_
  refine wp_aload_n dX13_readClause_93 rfl rfl ?_
  refine wp_ldcS (i := 161) (j := 3) (tx := "meets") dX13_readClause_94 (List.mem_of_getElem? (i := 19) rfl) ?_
  refine wp_invV (N := mX13_is) [vR 1001 3] dX13_readClause_96 ml_CustomValleyModel_137 mvX13_is rfl rfl rfl rfl rfl (Nat.le_of_ble_eq_true rfl) (Nat.le_of_ble_eq_true rfl) (by decide) (by decide) (by decide) ?_
  exact h
theorem b_X13_readClause_99 {x1 : Int} {t0 : Int} {σ : St} {Q : Res → St → Prop} (h : WP mX13_is 0 [vR 14 0, vR 1001 6, vU, vU] [] σ (CT mX13_readClause 106 [vR 14 0, vI x1, vI t0, vU] [] Q)) : WP mX13_readClause 99 [vR 14 0, vI x1, vU, vU] [vI t0] σ Q := by
  refine wp_istore_n dX13_readClause_99 rfl (by decide) rfl rfl ?_
  refine wp_aload_n dX13_readClause_100 rfl rfl ?_
  refine wp_ldcS (i := 163) (j := 6) (tx := "keeps") dX13_readClause_101 (List.mem_of_getElem? (i := 20) rfl) ?_
  refine wp_invV (N := mX13_is) [vR 1001 6] dX13_readClause_103 ml_CustomValleyModel_137 mvX13_is rfl rfl rfl rfl rfl (Nat.le_of_ble_eq_true rfl) (Nat.le_of_ble_eq_true rfl) (by decide) (by decide) (by decide) ?_
  exact h
theorem b_X13_readClause_106 {x1 : Int} {x2 : Int} {t0 : Int} {σ : St} {Q : Res → St → Prop} (h : ((x1 ≠ 0) → (WP mX13_need 0 [vR 14 0, vI 1, vI 1] [] σ (CTT mX13_readClause 138 [vR 14 0, vI x1, vI x2, vI t0] [] Q))) ∧ ((x1 = 0) → (((x2 ≠ 0) → (WP mX13_need 0 [vR 14 0, vI 1, vI 1] [] σ (CTT mX13_readClause 138 [vR 14 0, vI x1, vI x2, vI t0] [] Q))) ∧ ((x2 = 0) → (((t0 ≠ 0) → (WP mX13_need 0 [vR 14 0, vI 1, vI 1] [] σ (CTT mX13_readClause 138 [vR 14 0, vI x1, vI x2, vI t0] [] Q))) ∧ ((t0 = 0) → (WP mX13_is 0 [vR 14 0, vR 1001 7, vU, vU] [] σ (CT mX13_readClause 126 [vR 14 0, vI x1, vI x2, vI t0] [vR 14 0] Q)))))))) : WP mX13_readClause 106 [vR 14 0, vI x1, vI x2, vU] [vI t0] σ Q := by
  refine wp_istore_n dX13_readClause_106 rfl (by decide) rfl rfl ?_
  refine wp_aload_n dX13_readClause_107 rfl rfl ?_
  refine wp_iload_n dX13_readClause_108 rfl rfl ?_
  refine wp_if_ne (tgt := 129) dX13_readClause_109 (by decide) (fun hc => ?_) (fun hc => ?_)
  · replace h := h.1 hc
    refine wp_iconst dX13_readClause_129 rfl ?_
    refine wp_goto (tgt := 134) dX13_readClause_130 (by decide) ?_
    refine wp_iconst dX13_readClause_134 rfl ?_
    refine wp_invVT (N := mX13_need) mvX13_readClause.1.1 [vI 1, vI 1] dX13_readClause_135 ml_CustomValleyModel_57 mvX13_need rfl rfl rfl rfl rfl (Nat.le_of_ble_eq_true rfl) (Nat.le_of_ble_eq_true rfl) (by decide) (by decide) (by decide) ?_
    exact h
  · replace h := h.2 hc
    refine wp_iload_n dX13_readClause_112 rfl rfl ?_
    refine wp_if_ne (tgt := 129) dX13_readClause_113 (by decide) (fun hc => ?_) (fun hc => ?_)
    · replace h := h.1 hc
      refine wp_iconst dX13_readClause_129 rfl ?_
      refine wp_goto (tgt := 134) dX13_readClause_130 (by decide) ?_
      refine wp_iconst dX13_readClause_134 rfl ?_
      refine wp_invVT (N := mX13_need) mvX13_readClause.1.1 [vI 1, vI 1] dX13_readClause_135 ml_CustomValleyModel_57 mvX13_need rfl rfl rfl rfl rfl (Nat.le_of_ble_eq_true rfl) (Nat.le_of_ble_eq_true rfl) (by decide) (by decide) (by decide) ?_
      exact h
    · replace h := h.2 hc
      refine wp_iload_n dX13_readClause_116 rfl rfl ?_
      refine wp_if_ne (tgt := 129) dX13_readClause_117 (by decide) (fun hc => ?_) (fun hc => ?_)
      · replace h := h.1 hc
        refine wp_iconst dX13_readClause_129 rfl ?_
        refine wp_goto (tgt := 134) dX13_readClause_130 (by decide) ?_
        refine wp_iconst dX13_readClause_134 rfl ?_
        refine wp_invVT (N := mX13_need) mvX13_readClause.1.1 [vI 1, vI 1] dX13_readClause_135 ml_CustomValleyModel_57 mvX13_need rfl rfl rfl rfl rfl (Nat.le_of_ble_eq_true rfl) (Nat.le_of_ble_eq_true rfl) (by decide) (by decide) (by decide) ?_
        exact h
      · replace h := h.2 hc
        refine wp_aload_n dX13_readClause_120 rfl rfl ?_
        refine wp_ldcS (i := 165) (j := 7) (tx := "slip") dX13_readClause_121 (List.mem_of_getElem? (i := 21) rfl) ?_
        refine wp_invV (N := mX13_is) [vR 1001 7] dX13_readClause_123 ml_CustomValleyModel_137 mvX13_is rfl rfl rfl rfl rfl (Nat.le_of_ble_eq_true rfl) (Nat.le_of_ble_eq_true rfl) (by decide) (by decide) (by decide) ?_
        exact h
theorem b_X13_readClause_126 {x1 : Int} {x2 : Int} {x3 : Int} {t0 : Int} {σ : St} {Q : Res → St → Prop} (h : ((t0 = 0) → (WP mX13_need 0 [vR 14 0, vI 0, vI 1] [] σ (CTT mX13_readClause 138 [vR 14 0, vI x1, vI x2, vI x3] [] Q))) ∧ ((t0 ≠ 0) → (WP mX13_need 0 [vR 14 0, vI 1, vI 1] [] σ (CTT mX13_readClause 138 [vR 14 0, vI x1, vI x2, vI x3] [] Q)))) : WP mX13_readClause 126 [vR 14 0, vI x1, vI x2, vI x3] [vI t0, vR 14 0] σ Q := by
  refine wp_if_eq (tgt := 133) dX13_readClause_126 (by decide) (fun hc => ?_) (fun hc => ?_)
  · replace h := h.1 hc
    refine wp_iconst dX13_readClause_133 rfl ?_
    refine wp_iconst dX13_readClause_134 rfl ?_
    refine wp_invVT (N := mX13_need) mvX13_readClause.1.1 [vI 0, vI 1] dX13_readClause_135 ml_CustomValleyModel_57 mvX13_need rfl rfl rfl rfl rfl (Nat.le_of_ble_eq_true rfl) (Nat.le_of_ble_eq_true rfl) (by decide) (by decide) (by decide) ?_
    exact h
  · replace h := h.2 hc
    refine wp_iconst dX13_readClause_129 rfl ?_
    refine wp_goto (tgt := 134) dX13_readClause_130 (by decide) ?_
    refine wp_iconst dX13_readClause_134 rfl ?_
    refine wp_invVT (N := mX13_need) mvX13_readClause.1.1 [vI 1, vI 1] dX13_readClause_135 ml_CustomValleyModel_57 mvX13_need rfl rfl rfl rfl rfl (Nat.le_of_ble_eq_true rfl) (Nat.le_of_ble_eq_true rfl) (by decide) (by decide) (by decide) ?_
    exact h
theorem b_X13_readClause_138 {x1 : Int} {x2 : Int} {x3 : Int} {σ : St} {Q : Res → St → Prop} (h : ((x1 = 0) → (((x2 = 0) → (((x3 = 0) → (WP mX13_readSlip 0 [vR 14 0, vU] [] (up σ 14 0 23 1) (CTT mX13_readClause 180 [vR 14 0, vU, vU, vU] [] Q))) ∧ ((x3 ≠ 0) → (WP mX13_readKeeps 0 [vR 14 0, vU] [] (up σ 14 0 23 1) (CTT mX13_readClause 173 [vR 14 0, vU, vU, vU] [] Q))))) ∧ ((x2 ≠ 0) → (WP mX13_readMeets 0 [vR 14 0, vU, vU] [] (up σ 14 0 23 1) (CTT mX13_readClause 162 [vR 14 0, vU, vU, vU] [] Q))))) ∧ ((x1 ≠ 0) → (WP mX13_readWorth 0 [vR 14 0, vU, vU] [] (up σ 14 0 23 1) (CTT mX13_readClause 151 [vR 14 0, vU, vU, vU] [] Q)))) : WP mX13_readClause 138 [vR 14 0, vI x1, vI x2, vI x3] [] σ Q := by
  refine wp_aload_n dX13_readClause_138 rfl rfl ?_
  refine wp_iconst dX13_readClause_139 rfl ?_
  refine wp_putZ dX13_readClause_140 fp_CustomValleyModel_101 rfl rfl rfl (by decide) ?_
  refine wp_iload_n dX13_readClause_143 rfl rfl ?_
  refine wp_if_eq (tgt := 154) dX13_readClause_144 (by decide) (fun hc => ?_) (fun hc => ?_)
  · replace h := h.1 hc
    refine wp_iload_n dX13_readClause_154 rfl rfl ?_
    refine wp_if_eq (tgt := 165) dX13_readClause_155 (by decide) (fun hc => ?_) (fun hc => ?_)
    · replace h := h.1 hc
      refine wp_iload_n dX13_readClause_165 rfl rfl ?_
      refine wp_if_eq (tgt := 176) dX13_readClause_166 (by decide) (fun hc => ?_) (fun hc => ?_)
      · replace h := h.1 hc
        refine wp_aload_n dX13_readClause_176 rfl rfl ?_
        refine wp_invVT (N := mX13_readSlip) mvX13_readClause.1.1 [] dX13_readClause_177 ml_CustomValleyModel_174 mvX13_readSlip rfl rfl rfl rfl rfl (Nat.le_of_ble_eq_true rfl) (Nat.le_of_ble_eq_true rfl) (by decide) (by decide) (by decide) ?_
        exact WP.mono h (ctt_drop (lle_c (Or.inl rfl) (lle_c (Or.inr rfl) (lle_c (Or.inr rfl) (lle_c (Or.inr rfl) lle_n)))))
      · replace h := h.2 hc
        refine wp_aload_n dX13_readClause_169 rfl rfl ?_
        refine wp_invVT (N := mX13_readKeeps) mvX13_readClause.1.1 [] dX13_readClause_170 ml_CustomValleyModel_172 mvX13_readKeeps rfl rfl rfl rfl rfl (Nat.le_of_ble_eq_true rfl) (Nat.le_of_ble_eq_true rfl) (by decide) (by decide) (by decide) ?_
        exact WP.mono h (ctt_drop (lle_c (Or.inl rfl) (lle_c (Or.inr rfl) (lle_c (Or.inr rfl) (lle_c (Or.inr rfl) lle_n)))))
    · replace h := h.2 hc
      refine wp_aload_n dX13_readClause_158 rfl rfl ?_
      refine wp_invVT (N := mX13_readMeets) mvX13_readClause.1.1 [] dX13_readClause_159 ml_CustomValleyModel_170 mvX13_readMeets rfl rfl rfl rfl rfl (Nat.le_of_ble_eq_true rfl) (Nat.le_of_ble_eq_true rfl) (by decide) (by decide) (by decide) ?_
      exact WP.mono h (ctt_drop (lle_c (Or.inl rfl) (lle_c (Or.inr rfl) (lle_c (Or.inr rfl) (lle_c (Or.inr rfl) lle_n)))))
  · replace h := h.2 hc
    refine wp_aload_n dX13_readClause_147 rfl rfl ?_
    refine wp_invVT (N := mX13_readWorth) mvX13_readClause.1.1 [] dX13_readClause_148 ml_CustomValleyModel_167 mvX13_readWorth rfl rfl rfl rfl rfl (Nat.le_of_ble_eq_true rfl) (Nat.le_of_ble_eq_true rfl) (by decide) (by decide) (by decide) ?_
    exact WP.mono h (ctt_drop (lle_c (Or.inl rfl) (lle_c (Or.inr rfl) (lle_c (Or.inr rfl) (lle_c (Or.inr rfl) lle_n)))))
theorem b_X13_readClause_151  {σ : St} {Q : Res → St → Prop} (h : WP mX13_readClause 180 [vR 14 0, vU, vU, vU] [] σ Q) : WP mX13_readClause 151 [vR 14 0, vU, vU, vU] [] σ Q := by
  refine wp_goto (tgt := 180) dX13_readClause_151 (by decide) ?_
  exact h
theorem b_X13_readClause_162  {σ : St} {Q : Res → St → Prop} (h : WP mX13_readClause 180 [vR 14 0, vU, vU, vU] [] σ Q) : WP mX13_readClause 162 [vR 14 0, vU, vU, vU] [] σ Q := by
  refine wp_goto (tgt := 180) dX13_readClause_162 (by decide) ?_
  exact h
theorem b_X13_readClause_173  {σ : St} {Q : Res → St → Prop} (h : WP mX13_readClause 180 [vR 14 0, vU, vU, vU] [] σ Q) : WP mX13_readClause 173 [vR 14 0, vU, vU, vU] [] σ Q := by
  refine wp_goto (tgt := 180) dX13_readClause_173 (by decide) ?_
  exact h
theorem b_X13_readClause_180  {σ : St} {Q : Res → St → Prop} (h : (((σ 14 0 6) ≠ 3) → (WP mX13_need 0 [vR 14 0, vI 0, vI 1] [] σ (CTT mX13_readClause 198 [vR 14 0, vU, vU, vU] [] Q))) ∧ (((σ 14 0 6) = 3) → (WP mX13_need 0 [vR 14 0, vI 1, vI 1] [] σ (CTT mX13_readClause 198 [vR 14 0, vU, vU, vU] [] Q)))) : WP mX13_readClause 180 [vR 14 0, vU, vU, vU] [] σ Q := by
  refine wp_aload_n dX13_readClause_180 rfl rfl ?_
  refine wp_aload_n dX13_readClause_181 rfl rfl ?_
  refine wp_getI dX13_readClause_182 fl_CustomValleyModel_31 rfl rfl rfl ?_
  refine wp_iconst dX13_readClause_185 rfl ?_
  refine wp_icmp_ne (tgt := 193) dX13_readClause_186 (by decide) (fun hc => ?_) (fun hc => ?_)
  · replace h := h.1 hc
    refine wp_iconst dX13_readClause_193 rfl ?_
    refine wp_iconst dX13_readClause_194 rfl ?_
    refine wp_invVT (N := mX13_need) mvX13_readClause.1.1 [vI 0, vI 1] dX13_readClause_195 ml_CustomValleyModel_57 mvX13_need rfl rfl rfl rfl rfl (Nat.le_of_ble_eq_true rfl) (Nat.le_of_ble_eq_true rfl) (by decide) (by decide) (by decide) ?_
    exact h
  · replace h := h.2 hc
    refine wp_iconst dX13_readClause_189 rfl ?_
    refine wp_goto (tgt := 194) dX13_readClause_190 (by decide) ?_
    refine wp_iconst dX13_readClause_194 rfl ?_
    refine wp_invVT (N := mX13_need) mvX13_readClause.1.1 [vI 1, vI 1] dX13_readClause_195 ml_CustomValleyModel_57 mvX13_need rfl rfl rfl rfl rfl (Nat.le_of_ble_eq_true rfl) (Nat.le_of_ble_eq_true rfl) (by decide) (by decide) (by decide) ?_
    exact h
theorem b_X13_readClause_198  {σ : St} {Q : Res → St → Prop} (h : WP mX13_scan 0 [vR 14 0, vU] [] σ (CT mX13_readClause 202 [vU, vU, vU, vU] [] Q)) : WP mX13_readClause 198 [vR 14 0, vU, vU, vU] [] σ Q := by
  refine wp_aload_n dX13_readClause_198 rfl rfl ?_
  refine wp_invV (N := mX13_scan) [] dX13_readClause_199 ml_CustomValleyModel_69 mvX13_scan rfl rfl rfl rfl rfl (Nat.le_of_ble_eq_true rfl) (Nat.le_of_ble_eq_true rfl) (by decide) (by decide) (by decide) ?_
  exact WP.mono h (ct_drop (lle_c (Or.inr rfl) (lle_c (Or.inl rfl) (lle_c (Or.inl rfl) (lle_c (Or.inl rfl) lle_n)))))
theorem b_X13_readClause_202  {σ : St} {Q : Res → St → Prop} (h : Q (.inl none) σ) : WP mX13_readClause 202 [vU, vU, vU, vU] [] σ Q := by
  exact wp_ret dX13_readClause_202 rfl h
theorem dX13_readValley_0 : decode cX13_readValley 0 = .ok (.aload_n 0, 1) := by decide +kernel
theorem dX13_readValley_1 : decode cX13_readValley 1 = .ok (.invokevirtual 176, 3) := by decide +kernel
theorem dX13_readValley_4 : decode cX13_readValley 4 = .ok (.iconst 0, 1) := by decide +kernel
theorem dX13_readValley_5 : decode cX13_readValley 5 = .ok (.istore_n 1, 1) := by decide +kernel
theorem dX13_readValley_6 : decode cX13_readValley 6 = .ok (.aload_n 0, 1) := by decide +kernel
theorem dX13_readValley_7 : decode cX13_readValley 7 = .ok (.getfield 31, 3) := by decide +kernel
theorem dX13_readValley_10 : decode cX13_readValley 10 = .ok (.ifCond .eq 13, 3) := by decide +kernel
theorem dX13_readValley_13 : decode cX13_readValley 13 = .ok (.aload_n 0, 1) := by decide +kernel
theorem dX13_readValley_14 : decode cX13_readValley 14 = .ok (.invokevirtual 179, 3) := by decide +kernel
theorem dX13_readValley_17 : decode cX13_readValley 17 = .ok (.iinc 1 1, 3) := by decide +kernel
theorem dX13_readValley_20 : decode cX13_readValley 20 = .ok (.goto (-14), 3) := by decide +kernel
theorem dX13_readValley_23 : decode cX13_readValley 23 = .ok (.aload_n 0, 1) := by decide +kernel
theorem dX13_readValley_24 : decode cX13_readValley 24 = .ok (.getfield 98, 3) := by decide +kernel
theorem dX13_readValley_27 : decode cX13_readValley 27 = .ok (.ifCond .ne 39, 3) := by decide +kernel
theorem dX13_readValley_30 : decode cX13_readValley 30 = .ok (.iconst 0, 1) := by decide +kernel
theorem dX13_readValley_31 : decode cX13_readValley 31 = .ok (.istore_n 2, 1) := by decide +kernel
theorem dX13_readValley_32 : decode cX13_readValley 32 = .ok (.iload_n 2, 1) := by decide +kernel
theorem dX13_readValley_33 : decode cX13_readValley 33 = .ok (.aload_n 0, 1) := by decide +kernel
theorem dX13_readValley_34 : decode cX13_readValley 34 = .ok (.getfield 76, 3) := by decide +kernel
theorem dX13_readValley_37 : decode cX13_readValley 37 = .ok (.if_icmp .ge 29, 3) := by decide +kernel
theorem dX13_readValley_40 : decode cX13_readValley 40 = .ok (.aload_n 0, 1) := by decide +kernel
theorem dX13_readValley_41 : decode cX13_readValley 41 = .ok (.getfield 118, 3) := by decide +kernel
theorem dX13_readValley_44 : decode cX13_readValley 44 = .ok (.iload_n 2, 1) := by decide +kernel
theorem dX13_readValley_45 : decode cX13_readValley 45 = .ok (.iconst 1, 1) := by decide +kernel
theorem dX13_readValley_46 : decode cX13_readValley 46 = .ok (.aload_n 0, 1) := by decide +kernel
theorem dX13_readValley_47 : decode cX13_readValley 47 = .ok (.getfield 76, 3) := by decide +kernel
theorem dX13_readValley_50 : decode cX13_readValley 50 = .ok (.ishl, 1) := by decide +kernel
theorem dX13_readValley_51 : decode cX13_readValley 51 = .ok (.iconst 1, 1) := by decide +kernel
theorem dX13_readValley_52 : decode cX13_readValley 52 = .ok (.isub, 1) := by decide +kernel
theorem dX13_readValley_53 : decode cX13_readValley 53 = .ok (.iconst 1, 1) := by decide +kernel
theorem dX13_readValley_54 : decode cX13_readValley 54 = .ok (.iload_n 2, 1) := by decide +kernel
theorem dX13_readValley_55 : decode cX13_readValley 55 = .ok (.ishl, 1) := by decide +kernel
theorem dX13_readValley_56 : decode cX13_readValley 56 = .ok (.iconst (-1), 1) := by decide +kernel
theorem dX13_readValley_57 : decode cX13_readValley 57 = .ok (.ixor, 1) := by decide +kernel
theorem dX13_readValley_58 : decode cX13_readValley 58 = .ok (.iand, 1) := by decide +kernel
theorem dX13_readValley_59 : decode cX13_readValley 59 = .ok (.iastore, 1) := by decide +kernel
theorem dX13_readValley_60 : decode cX13_readValley 60 = .ok (.iinc 2 1, 3) := by decide +kernel
theorem dX13_readValley_63 : decode cX13_readValley 63 = .ok (.goto (-31), 3) := by decide +kernel
theorem dX13_readValley_66 : decode cX13_readValley 66 = .ok (.iload_n 1, 1) := by decide +kernel
theorem dX13_readValley_67 : decode cX13_readValley 67 = .ok (.ireturn, 1) := by decide +kernel
theorem b_X13_readValley_0  {σ : St} {Q : Res → St → Prop} (h : WP mX13_plain 0 [vR 14 0, vU, vU] [] σ (CT mX13_readValley 4 [vR 14 0, vU, vU] [] Q)) : WP mX13_readValley 0 [vR 14 0, vU, vU] [] σ Q := by
  refine wp_aload_n dX13_readValley_0 rfl rfl ?_
  refine wp_invV (N := mX13_plain) [] dX13_readValley_1 ml_CustomValleyModel_176 mvX13_plain rfl rfl rfl rfl rfl (Nat.le_of_ble_eq_true rfl) (Nat.le_of_ble_eq_true rfl) (by decide) (by decide) (by decide) ?_
  exact h
theorem b_X13_readValley_4  {σ : St} {Q : Res → St → Prop} (h : WP mX13_readValley 6 [vR 14 0, vI 0, vU] [] σ Q) : WP mX13_readValley 4 [vR 14 0, vU, vU] [] σ Q := by
  refine wp_iconst dX13_readValley_4 rfl ?_
  refine wp_istore_n dX13_readValley_5 rfl (by decide) rfl rfl ?_
  exact h
theorem b_X13_readValley_6 {x1 : Int} {σ : St} {Q : Res → St → Prop} (h : (((σ 14 0 6) = 0) → ((((σ 14 0 22) ≠ 0) → (Q (.inl (some (vI x1))) σ)) ∧ (((σ 14 0 22) = 0) → (WP mX13_readValley 32 [vR 14 0, vI x1, vI 0] [] σ Q)))) ∧ (((σ 14 0 6) ≠ 0) → (WP mX13_readClause 0 [vR 14 0, vU, vU, vU] [] σ (CTT mX13_readValley 17 [vR 14 0, vI x1, vU] [] Q)))) : WP mX13_readValley 6 [vR 14 0, vI x1, vU] [] σ Q := by
  refine wp_aload_n dX13_readValley_6 rfl rfl ?_
  refine wp_getI dX13_readValley_7 fl_CustomValleyModel_31 rfl rfl rfl ?_
  refine wp_if_eq (tgt := 23) dX13_readValley_10 (by decide) (fun hc => ?_) (fun hc => ?_)
  · replace h := h.1 hc
    refine wp_aload_n dX13_readValley_23 rfl rfl ?_
    refine wp_getI dX13_readValley_24 fl_CustomValleyModel_98 rfl rfl rfl ?_
    refine wp_if_ne (tgt := 66) dX13_readValley_27 (by decide) (fun hc => ?_) (fun hc => ?_)
    · replace h := h.1 hc
      refine wp_iload_n dX13_readValley_66 rfl rfl ?_
      exact wp_iret dX13_readValley_67 rfl h
    · replace h := h.2 hc
      refine wp_iconst dX13_readValley_30 rfl ?_
      refine wp_istore_n dX13_readValley_31 rfl (by decide) rfl rfl ?_
      exact h
  · replace h := h.2 hc
    refine wp_aload_n dX13_readValley_13 rfl rfl ?_
    refine wp_invVT (N := mX13_readClause) mvX13_readValley.1.1 [] dX13_readValley_14 ml_CustomValleyModel_179 mvX13_readClause rfl rfl rfl rfl rfl (Nat.le_of_ble_eq_true rfl) (Nat.le_of_ble_eq_true rfl) (by decide) (by decide) (by decide) ?_
    exact h
theorem b_X13_readValley_17 {x1 : Int} {σ : St} {Q : Res → St → Prop} (h : (in32 (x1 + 1)) ∧ (WP mX13_readValley 6 [vR 14 0, vI (x1 + 1), vU] [] σ Q)) : WP mX13_readValley 17 [vR 14 0, vI x1, vU] [] σ Q := by
  have s1 := h.1
  replace h := h.2
  refine wp_iinc dX13_readValley_17 rfl (by decide) rfl rfl ?_ (h1 := s1.1) (h2 := s1.2)
  refine wp_goto (tgt := 6) dX13_readValley_20 (by decide) ?_
  exact h
theorem b_X13_readValley_32 {x1 : Int} {x2 : Int} {σ : St} {Q : Res → St → Prop} (h : (((σ 14 0 14) ≤ x2) → (Q (.inl (some (vI x1))) σ)) ∧ ((x2 < (σ 14 0 14)) → ((in32 ((shl 1 (σ 14 0 14)) - 1)) ∧ ((0 ≤ x2 ∧ x2 < 10) ∧ ((in32 (x2 + 1)) ∧ (WP mX13_readValley 32 [vR 14 0, vI x1, vI (x2 + 1)] [] (up σ 70 0 x2.toNat (band ((shl 1 (σ 14 0 14)) - 1) (bxor (shl 1 x2) (-1)))) Q)))))) : WP mX13_readValley 32 [vR 14 0, vI x1, vI x2] [] σ Q := by
  refine wp_iload_n dX13_readValley_32 rfl rfl ?_
  refine wp_aload_n dX13_readValley_33 rfl rfl ?_
  refine wp_getI dX13_readValley_34 fl_CustomValleyModel_76 rfl rfl rfl ?_
  refine wp_icmp_ge (tgt := 66) dX13_readValley_37 (by decide) (fun hc => ?_) (fun hc => ?_)
  · replace h := h.1 hc
    refine wp_iload_n dX13_readValley_66 rfl rfl ?_
    exact wp_iret dX13_readValley_67 rfl h
  · replace h := h.2 hc
    refine wp_aload_n dX13_readValley_40 rfl rfl ?_
    refine wp_getR dX13_readValley_41 fl_CustomValleyModel_118 rfl rfl ?_
    refine wp_iload_n dX13_readValley_44 rfl rfl ?_
    refine wp_iconst dX13_readValley_45 rfl ?_
    refine wp_aload_n dX13_readValley_46 rfl rfl ?_
    refine wp_getI dX13_readValley_47 fl_CustomValleyModel_76 rfl rfl rfl ?_
    refine wp_ishl dX13_readValley_50 ?_
    refine wp_iconst dX13_readValley_51 rfl ?_
    have s3 := h.1
    replace h := h.2
    refine wp_isub dX13_readValley_52 ?_ (h1 := s3.1) (h2 := s3.2)
    refine wp_iconst dX13_readValley_53 rfl ?_
    refine wp_iload_n dX13_readValley_54 rfl rfl ?_
    refine wp_ishl dX13_readValley_55 ?_
    refine wp_iconst dX13_readValley_56 rfl ?_
    refine wp_ixor dX13_readValley_57 ?_
    refine wp_iand dX13_readValley_58 ?_
    have s2 := h.1
    replace h := h.2
    refine wp_iastore dX13_readValley_59 rfl rfl s2.1 s2.2 ?_
    have s1 := h.1
    replace h := h.2
    refine wp_iinc dX13_readValley_60 rfl (by decide) rfl rfl ?_ (h1 := s1.1) (h2 := s1.2)
    refine wp_goto (tgt := 32) dX13_readValley_63 (by decide) ?_
    exact h
theorem dX13_valley_0 : decode cX13_valley 0 = .ok (.aload_n 0, 1) := by decide +kernel
theorem dX13_valley_1 : decode cX13_valley 1 = .ok (.invokevirtual 322, 3) := by decide +kernel
theorem dX13_valley_4 : decode cX13_valley 4 = .ok (.aload_n 0, 1) := by decide +kernel
theorem dX13_valley_5 : decode cX13_valley 5 = .ok (.invokevirtual 325, 3) := by decide +kernel
theorem dX13_valley_8 : decode cX13_valley 8 = .ok (.istore_n 1, 1) := by decide +kernel
theorem dX13_valley_9 : decode cX13_valley 9 = .ok (.goto 6, 3) := by decide +kernel
theorem dX13_valley_12 : decode cX13_valley 12 = .ok (.astore_n 2, 1) := by decide +kernel
theorem dX13_valley_13 : decode cX13_valley 13 = .ok (.iconst (-1), 1) := by decide +kernel
theorem dX13_valley_14 : decode cX13_valley 14 = .ok (.ireturn, 1) := by decide +kernel
theorem dX13_valley_15 : decode cX13_valley 15 = .ok (.aload_n 0, 1) := by decide +kernel
theorem dX13_valley_16 : decode cX13_valley 16 = .ok (.iload_n 1, 1) := by decide +kernel
theorem dX13_valley_17 : decode cX13_valley 17 = .ok (.invokevirtual 315, 3) := by decide +kernel
theorem dX13_valley_20 : decode cX13_valley 20 = .ok (.aload_n 0, 1) := by decide +kernel
theorem dX13_valley_21 : decode cX13_valley 21 = .ok (.iconst 0, 1) := by decide +kernel
theorem dX13_valley_22 : decode cX13_valley 22 = .ok (.putfield 328, 3) := by decide +kernel
theorem dX13_valley_25 : decode cX13_valley 25 = .ok (.aload_n 0, 1) := by decide +kernel
theorem dX13_valley_26 : decode cX13_valley 26 = .ok (.iconst 0, 1) := by decide +kernel
theorem dX13_valley_27 : decode cX13_valley 27 = .ok (.putfield 331, 3) := by decide +kernel
theorem dX13_valley_30 : decode cX13_valley 30 = .ok (.aload_n 0, 1) := by decide +kernel
theorem dX13_valley_31 : decode cX13_valley 31 = .ok (.iconst 0, 1) := by decide +kernel
theorem dX13_valley_32 : decode cX13_valley 32 = .ok (.putfield 334, 3) := by decide +kernel
theorem dX13_valley_35 : decode cX13_valley 35 = .ok (.aload_n 0, 1) := by decide +kernel
theorem dX13_valley_36 : decode cX13_valley 36 = .ok (.iconst 0, 1) := by decide +kernel
theorem dX13_valley_37 : decode cX13_valley 37 = .ok (.putfield 337, 3) := by decide +kernel
theorem dX13_valley_40 : decode cX13_valley 40 = .ok (.aload_n 0, 1) := by decide +kernel
theorem dX13_valley_41 : decode cX13_valley 41 = .ok (.iconst 0, 1) := by decide +kernel
theorem dX13_valley_42 : decode cX13_valley 42 = .ok (.putfield 340, 3) := by decide +kernel
theorem dX13_valley_45 : decode cX13_valley 45 = .ok (.aload_n 0, 1) := by decide +kernel
theorem dX13_valley_46 : decode cX13_valley 46 = .ok (.iconst 0, 1) := by decide +kernel
theorem dX13_valley_47 : decode cX13_valley 47 = .ok (.putfield 343, 3) := by decide +kernel
theorem dX13_valley_50 : decode cX13_valley 50 = .ok (.aload_n 0, 1) := by decide +kernel
theorem dX13_valley_51 : decode cX13_valley 51 = .ok (.iconst 0, 1) := by decide +kernel
theorem dX13_valley_52 : decode cX13_valley 52 = .ok (.putfield 346, 3) := by decide +kernel
theorem dX13_valley_55 : decode cX13_valley 55 = .ok (.iload_n 1, 1) := by decide +kernel
theorem dX13_valley_56 : decode cX13_valley 56 = .ok (.ireturn, 1) := by decide +kernel
theorem b_X13_valley_0  {σ : St} {Q : Res → St → Prop} (h : WP mX13_begin 0 [vR 14 0] [] σ (CT mX13_valley 4 [vR 14 0, vU, vU] [] Q)) : WP mX13_valley 0 [vR 14 0, vU, vU] [] σ Q := by
  refine wp_aload_n dX13_valley_0 rfl rfl ?_
  refine wp_invV (N := mX13_begin) [] dX13_valley_1 ml_CustomValleyModel_322 mvX13_begin rfl rfl rfl rfl rfl (Nat.le_of_ble_eq_true rfl) (Nat.le_of_ble_eq_true rfl) (by decide) (by decide) (by decide) ?_
  exact h
theorem b_X13_valley_4  {σ : St} {Q : Res → St → Prop} (h : WP mX13_readValley 0 [vR 14 0, vU, vU] [] σ (CTC mX13_valley 8 12 [vR 14 0, vU, vU] [vU, vU, vU] [] Q)) : WP mX13_valley 4 [vR 14 0, vU, vU] [] σ Q := by
  refine wp_aload_n dX13_valley_4 rfl rfl ?_
  refine wp_invVC (N := mX13_readValley) cwX13_valley (by decide) (by decide) clX13_valley (alsH := [vU, vU, vU]) (lle_c (Or.inr rfl) (lle_c (Or.inl rfl) (lle_c (Or.inl rfl) lle_n))) [] dX13_valley_5 ml_CustomValleyModel_325 mvX13_readValley rfl rfl rfl rfl rfl (Nat.le_of_ble_eq_true rfl) (Nat.le_of_ble_eq_true rfl) (by decide) (by decide) (by decide) ?_
  exact h
theorem b_X13_valley_8 {t0 : Int} {σ : St} {Q : Res → St → Prop} (h : WP mX13_takeValley 0 [vR 14 0, vI t0, vU] [] σ (CT mX13_valley 20 [vR 14 0, vI t0, vU] [] Q)) : WP mX13_valley 8 [vR 14 0, vU, vU] [vI t0] σ Q := by
  refine wp_istore_n dX13_valley_8 rfl (by decide) rfl rfl ?_
  refine wp_goto (tgt := 15) dX13_valley_9 (by decide) ?_
  refine wp_aload_n dX13_valley_15 rfl rfl ?_
  refine wp_iload_n dX13_valley_16 rfl rfl ?_
  refine wp_invV (N := mX13_takeValley) [vI t0] dX13_valley_17 ml_CustomValleyModel_315 mvX13_takeValley rfl rfl rfl rfl rfl (Nat.le_of_ble_eq_true rfl) (Nat.le_of_ble_eq_true rfl) (by decide) (by decide) (by decide) ?_
  exact h
theorem b_X13_valley_12  {σ : St} {Q : Res → St → Prop} (h : Q (.inl (some (vI (-1)))) σ) : WP mX13_valley 12 [vU, vU, vU] [vR 13 0] σ Q := by
  refine wp_astore_n dX13_valley_12 rfl (by decide) rfl rfl ?_
  refine wp_iconst dX13_valley_13 rfl ?_
  exact wp_iret dX13_valley_14 rfl h
theorem b_X13_valley_20 {x1 : Int} {σ : St} {Q : Res → St → Prop} (h : Q (.inl (some (vI x1))) (up (up (up (up (up (up (up σ 14 0 83 0) 14 0 84 0) 14 0 85 0) 14 0 55 0) 14 0 62 0) 14 0 71 0) 14 0 76 0)) : WP mX13_valley 20 [vR 14 0, vI x1, vU] [] σ Q := by
  refine wp_aload_n dX13_valley_20 rfl rfl ?_
  refine wp_iconst dX13_valley_21 rfl ?_
  refine wp_putI dX13_valley_22 fp_CustomValleyModel_328 rfl rfl rfl ?_
  refine wp_aload_n dX13_valley_25 rfl rfl ?_
  refine wp_iconst dX13_valley_26 rfl ?_
  refine wp_putI dX13_valley_27 fp_CustomValleyModel_331 rfl rfl rfl ?_
  refine wp_aload_n dX13_valley_30 rfl rfl ?_
  refine wp_iconst dX13_valley_31 rfl ?_
  refine wp_putI dX13_valley_32 fp_CustomValleyModel_334 rfl rfl rfl ?_
  refine wp_aload_n dX13_valley_35 rfl rfl ?_
  refine wp_iconst dX13_valley_36 rfl ?_
  refine wp_putZ dX13_valley_37 fp_CustomValleyModel_337 rfl rfl rfl (by decide) ?_
  refine wp_aload_n dX13_valley_40 rfl rfl ?_
  refine wp_iconst dX13_valley_41 rfl ?_
  refine wp_putZ dX13_valley_42 fp_CustomValleyModel_340 rfl rfl rfl (by decide) ?_
  refine wp_aload_n dX13_valley_45 rfl rfl ?_
  refine wp_iconst dX13_valley_46 rfl ?_
  refine wp_putZ dX13_valley_47 fp_CustomValleyModel_343 rfl rfl rfl (by decide) ?_
  refine wp_aload_n dX13_valley_50 rfl rfl ?_
  refine wp_iconst dX13_valley_51 rfl ?_
  refine wp_putZ dX13_valley_52 fp_CustomValleyModel_346 rfl rfl rfl (by decide) ?_
  refine wp_iload_n dX13_valley_55 rfl rfl ?_
  exact wp_iret dX13_valley_56 rfl h
