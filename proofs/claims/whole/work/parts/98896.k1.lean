/-! ===== constructors: facts and leaves ===== -/
theorem ac_int : Cond.arrayClass (newarray.typeOf .int) ∈ TB := (tb_1 209 rfl rfl)
theorem ac_byte : Cond.arrayClass (newarray.typeOf .byte) ∈ TB := (tb_1 49 rfl rfl)
theorem ac_boolean : Cond.arrayClass (newarray.typeOf .boolean) ∈ TB := (tb_7 179 rfl rfl)
abbrev kX0_init : MI := (yX0_init, cX0_init, 1, none, 1)
theorem moX0_init : MO kX0_init 0 := ⟨(tb_2 192 rfl rfl), (tb_1 13 rfl rfl), ⟨by decide, by decide, by decide +kernel⟩, by decide +kernel, by decide⟩
theorem dX0_init_0 : decode cX0_init 0 = .ok (.aload_n 0, 1) := by decide +kernel
theorem dX0_init_1 : decode cX0_init 1 = .ok (.invokespecial 3, 3) := by decide +kernel
theorem dX0_init_4 : decode cX0_init 4 = .ok (.aload_n 0, 1) := by decide +kernel
theorem dX0_init_5 : decode cX0_init 5 = .ok (.sipush 1024, 3) := by decide +kernel
theorem dX0_init_8 : decode cX0_init 8 = .ok (.newarray .int, 2) := by decide +kernel
theorem dX0_init_10 : decode cX0_init 10 = .ok (.putfield 9, 3) := by decide +kernel
theorem dX0_init_13 : decode cX0_init 13 = .ok (.aload_n 0, 1) := by decide +kernel
theorem dX0_init_14 : decode cX0_init 14 = .ok (.sipush 1024, 3) := by decide +kernel
theorem dX0_init_17 : decode cX0_init 17 = .ok (.newarray .int, 2) := by decide +kernel
theorem dX0_init_19 : decode cX0_init 19 = .ok (.putfield 15, 3) := by decide +kernel
theorem dX0_init_22 : decode cX0_init 22 = .ok (.return_, 1) := by decide +kernel
theorem fbX0_9 : FPB RX0 9 0 1 (.array .int) := ⟨RX0, TX0, 3, rfl, by decide, rfl, (tb_2 196 rfl rfl), by decide +kernel, fun _ => rfl⟩
theorem fbX0_15 : FPB RX0 15 0 2 (.array .int) := ⟨RX0, TX0, 3, rfl, by decide, rfl, (tb_2 198 rfl rfl), by decide +kernel, fun _ => rfl⟩
theorem dfX0 (i j : Nat) (h : j < 3) : defaultValue (tyX0 j) = dfl 1 i j := match j, h with
  | 0, _ => rfl
  | 1, _ => rfl
  | 2, _ => rfl
  | j + 3, h => absurd h (by omega)
abbrev kX3_init : MI := (yX3_init, cX3_init, 1, none, 1)
theorem moX3_init : MO kX3_init 0 := ⟨(tb_2 22 rfl rfl), (tb_1 9 rfl rfl), ⟨by decide, by decide, by decide +kernel⟩, by decide +kernel, by decide⟩
theorem dX3_init_0 : decode cX3_init 0 = .ok (.aload_n 0, 1) := by decide +kernel
theorem dX3_init_1 : decode cX3_init 1 = .ok (.invokespecial 3, 3) := by decide +kernel
theorem dX3_init_4 : decode cX3_init 4 = .ok (.aload_n 0, 1) := by decide +kernel
theorem dX3_init_5 : decode cX3_init 5 = .ok (.sipush 10240, 3) := by decide +kernel
theorem dX3_init_8 : decode cX3_init 8 = .ok (.newarray .byte, 2) := by decide +kernel
theorem dX3_init_10 : decode cX3_init 10 = .ok (.putfield 9, 3) := by decide +kernel
theorem dX3_init_13 : decode cX3_init 13 = .ok (.aload_n 0, 1) := by decide +kernel
theorem dX3_init_14 : decode cX3_init 14 = .ok (.bipush 10, 2) := by decide +kernel
theorem dX3_init_16 : decode cX3_init 16 = .ok (.newarray .int, 2) := by decide +kernel
theorem dX3_init_18 : decode cX3_init 18 = .ok (.putfield 15, 3) := by decide +kernel
theorem dX3_init_21 : decode cX3_init 21 = .ok (.aload_n 0, 1) := by decide +kernel
theorem dX3_init_22 : decode cX3_init 22 = .ok (.bipush 10, 2) := by decide +kernel
theorem dX3_init_24 : decode cX3_init 24 = .ok (.newarray .int, 2) := by decide +kernel
theorem dX3_init_26 : decode cX3_init 26 = .ok (.putfield 19, 3) := by decide +kernel
theorem dX3_init_29 : decode cX3_init 29 = .ok (.aload_n 0, 1) := by decide +kernel
theorem dX3_init_30 : decode cX3_init 30 = .ok (.iconst 4, 1) := by decide +kernel
theorem dX3_init_31 : decode cX3_init 31 = .ok (.newarray .int, 2) := by decide +kernel
theorem dX3_init_33 : decode cX3_init 33 = .ok (.putfield 22, 3) := by decide +kernel
theorem dX3_init_36 : decode cX3_init 36 = .ok (.return_, 1) := by decide +kernel
theorem fbX3_9 : FPB RX3 9 3 0 (.array .byte) := ⟨RX3, TX3, 4, rfl, by decide, rfl, (tb_2 24 rfl rfl), by decide +kernel, fun _ => rfl⟩
theorem fbX3_15 : FPB RX3 15 3 1 (.array .int) := ⟨RX3, TX3, 4, rfl, by decide, rfl, (tb_2 26 rfl rfl), by decide +kernel, fun _ => rfl⟩
theorem fbX3_19 : FPB RX3 19 3 2 (.array .int) := ⟨RX3, TX3, 4, rfl, by decide, rfl, (tb_2 27 rfl rfl), by decide +kernel, fun _ => rfl⟩
theorem fbX3_22 : FPB RX3 22 3 3 (.array .int) := ⟨RX3, TX3, 4, rfl, by decide, rfl, (tb_2 28 rfl rfl), by decide +kernel, fun _ => rfl⟩
theorem dfX3 (i j : Nat) (h : j < 4) : defaultValue (tyX3 j) = dfl 4 i j := match j, h with
  | 0, _ => rfl
  | 1, _ => rfl
  | 2, _ => rfl
  | 3, _ => rfl
  | j + 4, h => absurd h (by omega)
abbrev kX4_init : MI := (yX4_init, cX4_init, 1, none, 1)
theorem moX4_init : MO kX4_init 0 := ⟨(tb_2 42 rfl rfl), (tb_1 10 rfl rfl), ⟨by decide, by decide, by decide +kernel⟩, by decide +kernel, by decide⟩
theorem dX4_init_0 : decode cX4_init 0 = .ok (.aload_n 0, 1) := by decide +kernel
theorem dX4_init_1 : decode cX4_init 1 = .ok (.invokespecial 3, 3) := by decide +kernel
theorem dX4_init_4 : decode cX4_init 4 = .ok (.aload_n 0, 1) := by decide +kernel
theorem dX4_init_5 : decode cX4_init 5 = .ok (.sipush 1024, 3) := by decide +kernel
theorem dX4_init_8 : decode cX4_init 8 = .ok (.newarray .int, 2) := by decide +kernel
theorem dX4_init_10 : decode cX4_init 10 = .ok (.putfield 9, 3) := by decide +kernel
theorem dX4_init_13 : decode cX4_init 13 = .ok (.aload_n 0, 1) := by decide +kernel
theorem dX4_init_14 : decode cX4_init 14 = .ok (.sipush 1024, 3) := by decide +kernel
theorem dX4_init_17 : decode cX4_init 17 = .ok (.newarray .int, 2) := by decide +kernel
theorem dX4_init_19 : decode cX4_init 19 = .ok (.putfield 15, 3) := by decide +kernel
theorem dX4_init_22 : decode cX4_init 22 = .ok (.aload_n 0, 1) := by decide +kernel
theorem dX4_init_23 : decode cX4_init 23 = .ok (.sipush 1024, 3) := by decide +kernel
theorem dX4_init_26 : decode cX4_init 26 = .ok (.newarray .int, 2) := by decide +kernel
theorem dX4_init_28 : decode cX4_init 28 = .ok (.putfield 18, 3) := by decide +kernel
theorem dX4_init_31 : decode cX4_init 31 = .ok (.aload_n 0, 1) := by decide +kernel
theorem dX4_init_32 : decode cX4_init 32 = .ok (.sipush 1025, 3) := by decide +kernel
theorem dX4_init_35 : decode cX4_init 35 = .ok (.newarray .int, 2) := by decide +kernel
theorem dX4_init_37 : decode cX4_init 37 = .ok (.putfield 21, 3) := by decide +kernel
theorem dX4_init_40 : decode cX4_init 40 = .ok (.aload_n 0, 1) := by decide +kernel
theorem dX4_init_41 : decode cX4_init 41 = .ok (.sipush 1024, 3) := by decide +kernel
theorem dX4_init_44 : decode cX4_init 44 = .ok (.newarray .int, 2) := by decide +kernel
theorem dX4_init_46 : decode cX4_init 46 = .ok (.putfield 24, 3) := by decide +kernel
theorem dX4_init_49 : decode cX4_init 49 = .ok (.aload_n 0, 1) := by decide +kernel
theorem dX4_init_50 : decode cX4_init 50 = .ok (.sipush 1024, 3) := by decide +kernel
theorem dX4_init_53 : decode cX4_init 53 = .ok (.newarray .int, 2) := by decide +kernel
theorem dX4_init_55 : decode cX4_init 55 = .ok (.putfield 27, 3) := by decide +kernel
theorem dX4_init_58 : decode cX4_init 58 = .ok (.aload_n 0, 1) := by decide +kernel
theorem dX4_init_59 : decode cX4_init 59 = .ok (.sipush 1024, 3) := by decide +kernel
theorem dX4_init_62 : decode cX4_init 62 = .ok (.newarray .int, 2) := by decide +kernel
theorem dX4_init_64 : decode cX4_init 64 = .ok (.putfield 30, 3) := by decide +kernel
theorem dX4_init_67 : decode cX4_init 67 = .ok (.aload_n 0, 1) := by decide +kernel
theorem dX4_init_68 : decode cX4_init 68 = .ok (.sipush 1024, 3) := by decide +kernel
theorem dX4_init_71 : decode cX4_init 71 = .ok (.newarray .int, 2) := by decide +kernel
theorem dX4_init_73 : decode cX4_init 73 = .ok (.putfield 33, 3) := by decide +kernel
theorem dX4_init_76 : decode cX4_init 76 = .ok (.aload_n 0, 1) := by decide +kernel
theorem dX4_init_77 : decode cX4_init 77 = .ok (.sipush 1024, 3) := by decide +kernel
theorem dX4_init_80 : decode cX4_init 80 = .ok (.newarray .int, 2) := by decide +kernel
theorem dX4_init_82 : decode cX4_init 82 = .ok (.putfield 36, 3) := by decide +kernel
theorem dX4_init_85 : decode cX4_init 85 = .ok (.aload_n 0, 1) := by decide +kernel
theorem dX4_init_86 : decode cX4_init 86 = .ok (.sipush 1024, 3) := by decide +kernel
theorem dX4_init_89 : decode cX4_init 89 = .ok (.newarray .int, 2) := by decide +kernel
theorem dX4_init_91 : decode cX4_init 91 = .ok (.putfield 39, 3) := by decide +kernel
theorem dX4_init_94 : decode cX4_init 94 = .ok (.return_, 1) := by decide +kernel
theorem fbX4_9 : FPB RX4 9 4 1 (.array .int) := ⟨RX4, TX4, 14, rfl, by decide, rfl, (tb_2 48 rfl rfl), by decide +kernel, fun _ => rfl⟩
theorem fbX4_15 : FPB RX4 15 4 2 (.array .int) := ⟨RX4, TX4, 14, rfl, by decide, rfl, (tb_2 51 rfl rfl), by decide +kernel, fun _ => rfl⟩
theorem fbX4_18 : FPB RX4 18 4 3 (.array .int) := ⟨RX4, TX4, 14, rfl, by decide, rfl, (tb_2 54 rfl rfl), by decide +kernel, fun _ => rfl⟩
theorem fbX4_21 : FPB RX4 21 4 4 (.array .int) := ⟨RX4, TX4, 14, rfl, by decide, rfl, (tb_2 57 rfl rfl), by decide +kernel, fun _ => rfl⟩
theorem fbX4_24 : FPB RX4 24 4 5 (.array .int) := ⟨RX4, TX4, 14, rfl, by decide, rfl, (tb_2 60 rfl rfl), by decide +kernel, fun _ => rfl⟩
theorem fbX4_27 : FPB RX4 27 4 6 (.array .int) := ⟨RX4, TX4, 14, rfl, by decide, rfl, (tb_2 63 rfl rfl), by decide +kernel, fun _ => rfl⟩
theorem fbX4_30 : FPB RX4 30 4 7 (.array .int) := ⟨RX4, TX4, 14, rfl, by decide, rfl, (tb_2 64 rfl rfl), by decide +kernel, fun _ => rfl⟩
theorem fbX4_33 : FPB RX4 33 4 8 (.array .int) := ⟨RX4, TX4, 14, rfl, by decide, rfl, (tb_2 65 rfl rfl), by decide +kernel, fun _ => rfl⟩
theorem fbX4_36 : FPB RX4 36 4 9 (.array .int) := ⟨RX4, TX4, 14, rfl, by decide, rfl, (tb_2 66 rfl rfl), by decide +kernel, fun _ => rfl⟩
theorem fbX4_39 : FPB RX4 39 4 10 (.array .int) := ⟨RX4, TX4, 14, rfl, by decide, rfl, (tb_2 67 rfl rfl), by decide +kernel, fun _ => rfl⟩
theorem dfX4 (i j : Nat) (h : j < 14) : defaultValue (tyX4 j) = dfl 5 i j := match j, h with
  | 0, _ => rfl
  | 1, _ => rfl
  | 2, _ => rfl
  | 3, _ => rfl
  | 4, _ => rfl
  | 5, _ => rfl
  | 6, _ => rfl
  | 7, _ => rfl
  | 8, _ => rfl
  | 9, _ => rfl
  | 10, _ => rfl
  | 11, _ => rfl
  | 12, _ => rfl
  | 13, _ => rfl
  | j + 14, h => absurd h (by omega)
abbrev kX5_init : MI := (yX5_init, cX5_init, 1, none, 1)
theorem moX5_init : MO kX5_init 0 := ⟨(tb_2 139 rfl rfl), (tb_1 11 rfl rfl), ⟨by decide, by decide, by decide +kernel⟩, by decide +kernel, by decide⟩
theorem dX5_init_0 : decode cX5_init 0 = .ok (.aload_n 0, 1) := by decide +kernel
theorem dX5_init_1 : decode cX5_init 1 = .ok (.invokespecial 3, 3) := by decide +kernel
theorem dX5_init_4 : decode cX5_init 4 = .ok (.aload_n 0, 1) := by decide +kernel
theorem dX5_init_5 : decode cX5_init 5 = .ok (.sipush 1024, 3) := by decide +kernel
theorem dX5_init_8 : decode cX5_init 8 = .ok (.newarray .int, 2) := by decide +kernel
theorem dX5_init_10 : decode cX5_init 10 = .ok (.putfield 9, 3) := by decide +kernel
theorem dX5_init_13 : decode cX5_init 13 = .ok (.aload_n 0, 1) := by decide +kernel
theorem dX5_init_14 : decode cX5_init 14 = .ok (.sipush 1024, 3) := by decide +kernel
theorem dX5_init_17 : decode cX5_init 17 = .ok (.newarray .int, 2) := by decide +kernel
theorem dX5_init_19 : decode cX5_init 19 = .ok (.putfield 15, 3) := by decide +kernel
theorem dX5_init_22 : decode cX5_init 22 = .ok (.aload_n 0, 1) := by decide +kernel
theorem dX5_init_23 : decode cX5_init 23 = .ok (.sipush 1024, 3) := by decide +kernel
theorem dX5_init_26 : decode cX5_init 26 = .ok (.newarray .int, 2) := by decide +kernel
theorem dX5_init_28 : decode cX5_init 28 = .ok (.putfield 18, 3) := by decide +kernel
theorem dX5_init_31 : decode cX5_init 31 = .ok (.return_, 1) := by decide +kernel
theorem fbX5_9 : FPB RX5 9 5 0 (.array .int) := ⟨RX5, TX5, 4, rfl, by decide, rfl, (tb_2 141 rfl rfl), by decide +kernel, fun _ => rfl⟩
theorem fbX5_15 : FPB RX5 15 5 1 (.array .int) := ⟨RX5, TX5, 4, rfl, by decide, rfl, (tb_2 144 rfl rfl), by decide +kernel, fun _ => rfl⟩
theorem fbX5_18 : FPB RX5 18 5 2 (.array .int) := ⟨RX5, TX5, 4, rfl, by decide, rfl, (tb_2 145 rfl rfl), by decide +kernel, fun _ => rfl⟩
theorem dfX5 (i j : Nat) (h : j < 4) : defaultValue (tyX5 j) = dfl 6 i j := match j, h with
  | 0, _ => rfl
  | 1, _ => rfl
  | 2, _ => rfl
  | 3, _ => rfl
  | j + 4, h => absurd h (by omega)
abbrev kX6_init : MI := (yX6_init, cX6_init, 1, none, 1)
theorem moX6_init : MO kX6_init 0 := ⟨(tb_3 8 rfl rfl), (tb_1 15 rfl rfl), ⟨by decide, by decide, by decide +kernel⟩, by decide +kernel, by decide⟩
theorem dX6_init_0 : decode cX6_init 0 = .ok (.aload_n 0, 1) := by decide +kernel
theorem dX6_init_1 : decode cX6_init 1 = .ok (.invokespecial 3, 3) := by decide +kernel
theorem dX6_init_4 : decode cX6_init 4 = .ok (.aload_n 0, 1) := by decide +kernel
theorem dX6_init_5 : decode cX6_init 5 = .ok (.bipush 20, 2) := by decide +kernel
theorem dX6_init_7 : decode cX6_init 7 = .ok (.newarray .int, 2) := by decide +kernel
theorem dX6_init_9 : decode cX6_init 9 = .ok (.putfield 9, 3) := by decide +kernel
theorem dX6_init_12 : decode cX6_init 12 = .ok (.aload_n 0, 1) := by decide +kernel
theorem dX6_init_13 : decode cX6_init 13 = .ok (.bipush 20, 2) := by decide +kernel
theorem dX6_init_15 : decode cX6_init 15 = .ok (.newarray .int, 2) := by decide +kernel
theorem dX6_init_17 : decode cX6_init 17 = .ok (.putfield 15, 3) := by decide +kernel
theorem dX6_init_20 : decode cX6_init 20 = .ok (.aload_n 0, 1) := by decide +kernel
theorem dX6_init_21 : decode cX6_init 21 = .ok (.bipush 20, 2) := by decide +kernel
theorem dX6_init_23 : decode cX6_init 23 = .ok (.newarray .int, 2) := by decide +kernel
theorem dX6_init_25 : decode cX6_init 25 = .ok (.putfield 18, 3) := by decide +kernel
theorem dX6_init_28 : decode cX6_init 28 = .ok (.aload_n 0, 1) := by decide +kernel
theorem dX6_init_29 : decode cX6_init 29 = .ok (.bipush 20, 2) := by decide +kernel
theorem dX6_init_31 : decode cX6_init 31 = .ok (.newarray .int, 2) := by decide +kernel
theorem dX6_init_33 : decode cX6_init 33 = .ok (.putfield 21, 3) := by decide +kernel
theorem dX6_init_36 : decode cX6_init 36 = .ok (.aload_n 0, 1) := by decide +kernel
theorem dX6_init_37 : decode cX6_init 37 = .ok (.bipush 20, 2) := by decide +kernel
theorem dX6_init_39 : decode cX6_init 39 = .ok (.newarray .int, 2) := by decide +kernel
theorem dX6_init_41 : decode cX6_init 41 = .ok (.putfield 24, 3) := by decide +kernel
theorem dX6_init_44 : decode cX6_init 44 = .ok (.aload_n 0, 1) := by decide +kernel
theorem dX6_init_45 : decode cX6_init 45 = .ok (.bipush 20, 2) := by decide +kernel
theorem dX6_init_47 : decode cX6_init 47 = .ok (.newarray .int, 2) := by decide +kernel
theorem dX6_init_49 : decode cX6_init 49 = .ok (.putfield 27, 3) := by decide +kernel
theorem dX6_init_52 : decode cX6_init 52 = .ok (.return_, 1) := by decide +kernel
theorem fbX6_9 : FPB RX6 9 6 3 (.array .int) := ⟨RX6, TX6, 9, rfl, by decide, rfl, (tb_3 15 rfl rfl), by decide +kernel, fun _ => rfl⟩
theorem fbX6_15 : FPB RX6 15 6 4 (.array .int) := ⟨RX6, TX6, 9, rfl, by decide, rfl, (tb_3 16 rfl rfl), by decide +kernel, fun _ => rfl⟩
theorem fbX6_18 : FPB RX6 18 6 5 (.array .int) := ⟨RX6, TX6, 9, rfl, by decide, rfl, (tb_3 17 rfl rfl), by decide +kernel, fun _ => rfl⟩
theorem fbX6_21 : FPB RX6 21 6 6 (.array .int) := ⟨RX6, TX6, 9, rfl, by decide, rfl, (tb_3 18 rfl rfl), by decide +kernel, fun _ => rfl⟩
theorem fbX6_24 : FPB RX6 24 6 7 (.array .int) := ⟨RX6, TX6, 9, rfl, by decide, rfl, (tb_3 19 rfl rfl), by decide +kernel, fun _ => rfl⟩
theorem fbX6_27 : FPB RX6 27 6 8 (.array .int) := ⟨RX6, TX6, 9, rfl, by decide, rfl, (tb_3 20 rfl rfl), by decide +kernel, fun _ => rfl⟩
theorem dfX6 (i j : Nat) (h : j < 9) : defaultValue (tyX6 j) = dfl 7 i j := match j, h with
  | 0, _ => rfl
  | 1, _ => rfl
  | 2, _ => rfl
  | 3, _ => rfl
  | 4, _ => rfl
  | 5, _ => rfl
  | 6, _ => rfl
  | 7, _ => rfl
  | 8, _ => rfl
  | j + 9, h => absurd h (by omega)
abbrev kX7_init : MI := (yX7_init, cX7_init, 1, none, 1)
theorem moX7_init : MO kX7_init 0 := ⟨(tb_1 37 rfl rfl), (tb_1 2 rfl rfl), ⟨by decide, by decide, by decide +kernel⟩, by decide +kernel, by decide⟩
theorem dX7_init_0 : decode cX7_init 0 = .ok (.aload_n 0, 1) := by decide +kernel
theorem dX7_init_1 : decode cX7_init 1 = .ok (.invokespecial 3, 3) := by decide +kernel
theorem dX7_init_4 : decode cX7_init 4 = .ok (.aload_n 0, 1) := by decide +kernel
theorem dX7_init_5 : decode cX7_init 5 = .ok (.sipush 700, 3) := by decide +kernel
theorem dX7_init_8 : decode cX7_init 8 = .ok (.newarray .byte, 2) := by decide +kernel
theorem dX7_init_10 : decode cX7_init 10 = .ok (.putfield 9, 3) := by decide +kernel
theorem dX7_init_13 : decode cX7_init 13 = .ok (.return_, 1) := by decide +kernel
theorem fbX7_9 : FPB RX7 9 7 0 (.array .byte) := ⟨RX7, TX7, 2, rfl, by decide, rfl, (tb_1 39 rfl rfl), by decide +kernel, fun _ => rfl⟩
theorem dfX7 (i j : Nat) (h : j < 2) : defaultValue (tyX7 j) = dfl 8 i j := match j, h with
  | 0, _ => rfl
  | 1, _ => rfl
  | j + 2, h => absurd h (by omega)
abbrev kX8_init : MI := (yX8_init, cX8_init, 1, none, 1)
theorem moX8_init : MO kX8_init 0 := ⟨(tb_2 160 rfl rfl), (tb_1 12 rfl rfl), ⟨by decide, by decide, by decide +kernel⟩, by decide +kernel, by decide⟩
theorem dX8_init_0 : decode cX8_init 0 = .ok (.aload_n 0, 1) := by decide +kernel
theorem dX8_init_1 : decode cX8_init 1 = .ok (.invokespecial 3, 3) := by decide +kernel
theorem dX8_init_4 : decode cX8_init 4 = .ok (.aload_n 0, 1) := by decide +kernel
theorem dX8_init_5 : decode cX8_init 5 = .ok (.bipush 12, 2) := by decide +kernel
theorem dX8_init_7 : decode cX8_init 7 = .ok (.newarray .int, 2) := by decide +kernel
theorem dX8_init_9 : decode cX8_init 9 = .ok (.putfield 9, 3) := by decide +kernel
theorem dX8_init_12 : decode cX8_init 12 = .ok (.aload_n 0, 1) := by decide +kernel
theorem dX8_init_13 : decode cX8_init 13 = .ok (.bipush 12, 2) := by decide +kernel
theorem dX8_init_15 : decode cX8_init 15 = .ok (.newarray .int, 2) := by decide +kernel
theorem dX8_init_17 : decode cX8_init 17 = .ok (.putfield 15, 3) := by decide +kernel
theorem dX8_init_20 : decode cX8_init 20 = .ok (.aload_n 0, 1) := by decide +kernel
theorem dX8_init_21 : decode cX8_init 21 = .ok (.sipush 144, 3) := by decide +kernel
theorem dX8_init_24 : decode cX8_init 24 = .ok (.newarray .int, 2) := by decide +kernel
theorem dX8_init_26 : decode cX8_init 26 = .ok (.putfield 18, 3) := by decide +kernel
theorem dX8_init_29 : decode cX8_init 29 = .ok (.aload_n 0, 1) := by decide +kernel
theorem dX8_init_30 : decode cX8_init 30 = .ok (.sipush 144, 3) := by decide +kernel
theorem dX8_init_33 : decode cX8_init 33 = .ok (.newarray .int, 2) := by decide +kernel
theorem dX8_init_35 : decode cX8_init 35 = .ok (.putfield 21, 3) := by decide +kernel
theorem dX8_init_38 : decode cX8_init 38 = .ok (.aload_n 0, 1) := by decide +kernel
theorem dX8_init_39 : decode cX8_init 39 = .ok (.bipush 12, 2) := by decide +kernel
theorem dX8_init_41 : decode cX8_init 41 = .ok (.newarray .int, 2) := by decide +kernel
theorem dX8_init_43 : decode cX8_init 43 = .ok (.putfield 24, 3) := by decide +kernel
theorem dX8_init_46 : decode cX8_init 46 = .ok (.aload_n 0, 1) := by decide +kernel
theorem dX8_init_47 : decode cX8_init 47 = .ok (.bipush 12, 2) := by decide +kernel
theorem dX8_init_49 : decode cX8_init 49 = .ok (.newarray .int, 2) := by decide +kernel
theorem dX8_init_51 : decode cX8_init 51 = .ok (.putfield 27, 3) := by decide +kernel
theorem dX8_init_54 : decode cX8_init 54 = .ok (.aload_n 0, 1) := by decide +kernel
theorem dX8_init_55 : decode cX8_init 55 = .ok (.bipush 12, 2) := by decide +kernel
theorem dX8_init_57 : decode cX8_init 57 = .ok (.newarray .int, 2) := by decide +kernel
theorem dX8_init_59 : decode cX8_init 59 = .ok (.putfield 30, 3) := by decide +kernel
theorem dX8_init_62 : decode cX8_init 62 = .ok (.return_, 1) := by decide +kernel
theorem fbX8_9 : FPB RX8 9 8 1 (.array .int) := ⟨RX8, TX8, 8, rfl, by decide, rfl, (tb_2 164 rfl rfl), by decide +kernel, fun _ => rfl⟩
theorem fbX8_15 : FPB RX8 15 8 2 (.array .int) := ⟨RX8, TX8, 8, rfl, by decide, rfl, (tb_2 165 rfl rfl), by decide +kernel, fun _ => rfl⟩
theorem fbX8_18 : FPB RX8 18 8 3 (.array .int) := ⟨RX8, TX8, 8, rfl, by decide, rfl, (tb_2 166 rfl rfl), by decide +kernel, fun _ => rfl⟩
theorem fbX8_21 : FPB RX8 21 8 4 (.array .int) := ⟨RX8, TX8, 8, rfl, by decide, rfl, (tb_2 167 rfl rfl), by decide +kernel, fun _ => rfl⟩
theorem fbX8_24 : FPB RX8 24 8 5 (.array .int) := ⟨RX8, TX8, 8, rfl, by decide, rfl, (tb_2 168 rfl rfl), by decide +kernel, fun _ => rfl⟩
theorem fbX8_27 : FPB RX8 27 8 6 (.array .int) := ⟨RX8, TX8, 8, rfl, by decide, rfl, (tb_2 169 rfl rfl), by decide +kernel, fun _ => rfl⟩
theorem fbX8_30 : FPB RX8 30 8 7 (.array .int) := ⟨RX8, TX8, 8, rfl, by decide, rfl, (tb_2 170 rfl rfl), by decide +kernel, fun _ => rfl⟩
theorem dfX8 (i j : Nat) (h : j < 8) : defaultValue (tyX8 j) = dfl 9 i j := match j, h with
  | 0, _ => rfl
  | 1, _ => rfl
  | 2, _ => rfl
  | 3, _ => rfl
  | 4, _ => rfl
  | 5, _ => rfl
  | 6, _ => rfl
  | 7, _ => rfl
  | j + 8, h => absurd h (by omega)
abbrev kX10_init : MI := (yX10_init, cX10_init, 1, none, 1)
theorem moX10_init : MO kX10_init 0 := ⟨(tb_2 210 rfl rfl), (tb_1 14 rfl rfl), ⟨by decide, by decide, by decide +kernel⟩, by decide +kernel, by decide⟩
theorem dX10_init_0 : decode cX10_init 0 = .ok (.aload_n 0, 1) := by decide +kernel
theorem dX10_init_1 : decode cX10_init 1 = .ok (.invokespecial 3, 3) := by decide +kernel
theorem dX10_init_4 : decode cX10_init 4 = .ok (.aload_n 0, 1) := by decide +kernel
theorem dX10_init_5 : decode cX10_init 5 = .ok (.bipush 10, 2) := by decide +kernel
theorem dX10_init_7 : decode cX10_init 7 = .ok (.newarray .int, 2) := by decide +kernel
theorem dX10_init_9 : decode cX10_init 9 = .ok (.putfield 9, 3) := by decide +kernel
theorem dX10_init_12 : decode cX10_init 12 = .ok (.return_, 1) := by decide +kernel
theorem fbX10_9 : FPB RX10 9 10 6 (.array .int) := ⟨RX10, TX10, 8, rfl, by decide, rfl, (tb_2 224 rfl rfl), by decide +kernel, fun _ => rfl⟩
theorem dfX10 (i j : Nat) (h : j < 8) : defaultValue (tyX10 j) = dfl 11 i j := match j, h with
  | 0, _ => rfl
  | 1, _ => rfl
  | 2, _ => rfl
  | 3, _ => rfl
  | 4, _ => rfl
  | 5, _ => rfl
  | 6, _ => rfl
  | 7, _ => rfl
  | j + 8, h => absurd h (by omega)
def LnX0 (i : Nat) : List (Nat × Nat) := [(20, i), (21, i)]
theorem k_X0 {l : Launch} {G : GG} {σ : St} {i sz : Nat} (hR : RO σ) (hz : ZL σ (LnX0 i)) (hg : HG G sz (LnX0 i)) : KM l kX0_init G σ 1 i 0 sz [] ((1, i) :: LnX0 i) 2 2048 (fun τ => τ = σ) := by
  refine met_B (by decide +kernel) rfl rfl hR (Nat.le_of_ble_eq_true rfl) ?_
  intro p e s mid below meth c Z hB hsz hend H locs ls hD hl
  subst hsz
  have hl : lv_has ls 1 [(0, .ref (G.2.2.1 1 i))] := hl
  refine wb_obj0 hB dX0_init_0 dX0_init_1 (tb_2 193 rfl rfl) (by decide) hl ?_
  refine wb_arr (q := (20, i)) (v := 1024) (na := 1024) (cl1 := 1) (sl1 := 1024) (pc3 := 13) hB dX0_init_4 (fun H locs rest k => lv_sipush hB.1.1 hB.1.2.1 dX0_init_5 (by decide) k) dX0_init_8 dX0_init_10 fbX0_9 (by decide) rfl rfl rfl ac_int rfl rfl rfl rfl rfl (by decide) (by decide) (Nat.le_of_ble_eq_true rfl) (Nat.le_of_ble_eq_true rfl) (Nat.le_of_ble_eq_true rfl) (hz _ (List.mem_of_getElem? (i := 0) rfl)) (hg 0 _ rfl) (fun a => ⟨rfl, rfl⟩) hD hl (fun H locs hD => ?_)
  refine wb_arr (q := (21, i)) (v := 1024) (na := 1024) (cl1 := 2) (sl1 := 2048) (pc3 := 22) hB dX0_init_13 (fun H locs rest k => lv_sipush hB.1.1 hB.1.2.1 dX0_init_14 (by decide) k) dX0_init_17 dX0_init_19 fbX0_15 (by decide) rfl rfl rfl ac_int rfl rfl rfl rfl rfl (by decide) (by decide) (Nat.le_of_ble_eq_true rfl) (Nat.le_of_ble_eq_true rfl) (Nat.le_of_ble_eq_true rfl) (hz _ (List.mem_of_getElem? (i := 1) rfl)) (hg 1 _ rfl) (fun a => ⟨rfl, rfl⟩) hD hl (fun H locs hD => ?_)
  have e : wB G σ [2, 1] 1 i 0 (LnX0 i) = cw G σ ((1, i) :: LnX0 i) := by unfold wB; rw [eB_full rfl (by decide) (of_decide_eq_true rfl)]; rfl
  have hP : va_P G.1 classes (wB G σ [2, 1] 1 i 0 (LnX0 i)) H := hD.1
  have hDD : va_D (AB G 1 i s.heap.size) (wB G σ [2, 1] 1 i 0 (LnX0 i)) := hD.2.1
  rw [e] at hP hDD
  exact hend H locs ls _ σ FR.rf rfl hD.2.2.2.1 hP hDD hD.2.2.1 dX0_init_22
def LnX3 (i : Nat) : List (Nat × Nat) := [(23, i), (24, i), (25, i), (26, i)]
theorem k_X3 {l : Launch} {G : GG} {σ : St} {i sz : Nat} (hR : RO σ) (hz : ZL σ (LnX3 i)) (hg : HG G sz (LnX3 i)) : KM l kX3_init G σ 4 i 3 sz [] ((4, i) :: LnX3 i) 4 10264 (fun τ => τ = σ) := by
  refine met_B (by decide +kernel) rfl rfl hR (Nat.le_of_ble_eq_true rfl) ?_
  intro p e s mid below meth c Z hB hsz hend H locs ls hD hl
  subst hsz
  have hl : lv_has ls 1 [(0, .ref (G.2.2.1 4 i))] := hl
  refine wb_obj0 hB dX3_init_0 dX3_init_1 (tb_2 23 rfl rfl) (by decide) hl ?_
  refine wb_arr (q := (23, i)) (v := 10240) (na := 10240) (cl1 := 1) (sl1 := 10240) (pc3 := 13) hB dX3_init_4 (fun H locs rest k => lv_sipush hB.1.1 hB.1.2.1 dX3_init_5 (by decide) k) dX3_init_8 dX3_init_10 fbX3_9 (by decide) rfl rfl rfl ac_byte rfl rfl rfl rfl rfl (by decide) (by decide) (Nat.le_of_ble_eq_true rfl) (Nat.le_of_ble_eq_true rfl) (Nat.le_of_ble_eq_true rfl) (hz _ (List.mem_of_getElem? (i := 0) rfl)) (hg 0 _ rfl) (fun a => ⟨rfl, rfl⟩) hD hl (fun H locs hD => ?_)
  refine wb_arr (q := (24, i)) (v := 10) (na := 10) (cl1 := 2) (sl1 := 10250) (pc3 := 21) hB dX3_init_13 (fun H locs rest k => lv_bipush hB.1.1 hB.1.2.1 dX3_init_14 (by decide) k) dX3_init_16 dX3_init_18 fbX3_15 (by decide) rfl rfl rfl ac_int rfl rfl rfl rfl rfl (by decide) (by decide) (Nat.le_of_ble_eq_true rfl) (Nat.le_of_ble_eq_true rfl) (Nat.le_of_ble_eq_true rfl) (hz _ (List.mem_of_getElem? (i := 1) rfl)) (hg 1 _ rfl) (fun a => ⟨rfl, rfl⟩) hD hl (fun H locs hD => ?_)
  refine wb_arr (q := (25, i)) (v := 10) (na := 10) (cl1 := 3) (sl1 := 10260) (pc3 := 29) hB dX3_init_21 (fun H locs rest k => lv_bipush hB.1.1 hB.1.2.1 dX3_init_22 (by decide) k) dX3_init_24 dX3_init_26 fbX3_19 (by decide) rfl rfl rfl ac_int rfl rfl rfl rfl rfl (by decide) (by decide) (Nat.le_of_ble_eq_true rfl) (Nat.le_of_ble_eq_true rfl) (Nat.le_of_ble_eq_true rfl) (hz _ (List.mem_of_getElem? (i := 2) rfl)) (hg 2 _ rfl) (fun a => ⟨rfl, rfl⟩) hD hl (fun H locs hD => ?_)
  refine wb_arr (q := (26, i)) (v := 4) (na := 4) (cl1 := 4) (sl1 := 10264) (pc3 := 36) hB dX3_init_29 (fun H locs rest k => lv_iconst hB.1.1 hB.1.2.1 dX3_init_30 (by decide) k) dX3_init_31 dX3_init_33 fbX3_22 (by decide) rfl rfl rfl ac_int rfl rfl rfl rfl rfl (by decide) (by decide) (Nat.le_of_ble_eq_true rfl) (Nat.le_of_ble_eq_true rfl) (Nat.le_of_ble_eq_true rfl) (hz _ (List.mem_of_getElem? (i := 3) rfl)) (hg 3 _ rfl) (fun a => ⟨rfl, rfl⟩) hD hl (fun H locs hD => ?_)
  have e : wB G σ [3, 2, 1, 0] 4 i 3 (LnX3 i) = cw G σ ((4, i) :: LnX3 i) := by unfold wB; rw [eB_full rfl (by decide) (of_decide_eq_true rfl)]; rfl
  have hP : va_P G.1 classes (wB G σ [3, 2, 1, 0] 4 i 3 (LnX3 i)) H := hD.1
  have hDD : va_D (AB G 4 i s.heap.size) (wB G σ [3, 2, 1, 0] 4 i 3 (LnX3 i)) := hD.2.1
  rw [e] at hP hDD
  exact hend H locs ls _ σ FR.rf rfl hD.2.2.2.1 hP hDD hD.2.2.1 dX3_init_36
def LnX4 (i : Nat) : List (Nat × Nat) := [(27, i), (28, i), (29, i), (30, i), (31, i), (32, i), (33, i), (34, i), (35, i), (36, i)]
theorem k_X4 {l : Launch} {G : GG} {σ : St} {i sz : Nat} (hR : RO σ) (hz : ZL σ (LnX4 i)) (hg : HG G sz (LnX4 i)) : KM l kX4_init G σ 5 i 4 sz [] ((5, i) :: LnX4 i) 10 10241 (fun τ => τ = σ) := by
  refine met_B (by decide +kernel) rfl rfl hR (Nat.le_of_ble_eq_true rfl) ?_
  intro p e s mid below meth c Z hB hsz hend H locs ls hD hl
  subst hsz
  have hl : lv_has ls 1 [(0, .ref (G.2.2.1 5 i))] := hl
  refine wb_obj0 hB dX4_init_0 dX4_init_1 (tb_2 43 rfl rfl) (by decide) hl ?_
  refine wb_arr (q := (27, i)) (v := 1024) (na := 1024) (cl1 := 1) (sl1 := 1024) (pc3 := 13) hB dX4_init_4 (fun H locs rest k => lv_sipush hB.1.1 hB.1.2.1 dX4_init_5 (by decide) k) dX4_init_8 dX4_init_10 fbX4_9 (by decide) rfl rfl rfl ac_int rfl rfl rfl rfl rfl (by decide) (by decide) (Nat.le_of_ble_eq_true rfl) (Nat.le_of_ble_eq_true rfl) (Nat.le_of_ble_eq_true rfl) (hz _ (List.mem_of_getElem? (i := 0) rfl)) (hg 0 _ rfl) (fun a => ⟨rfl, rfl⟩) hD hl (fun H locs hD => ?_)
  refine wb_arr (q := (28, i)) (v := 1024) (na := 1024) (cl1 := 2) (sl1 := 2048) (pc3 := 22) hB dX4_init_13 (fun H locs rest k => lv_sipush hB.1.1 hB.1.2.1 dX4_init_14 (by decide) k) dX4_init_17 dX4_init_19 fbX4_15 (by decide) rfl rfl rfl ac_int rfl rfl rfl rfl rfl (by decide) (by decide) (Nat.le_of_ble_eq_true rfl) (Nat.le_of_ble_eq_true rfl) (Nat.le_of_ble_eq_true rfl) (hz _ (List.mem_of_getElem? (i := 1) rfl)) (hg 1 _ rfl) (fun a => ⟨rfl, rfl⟩) hD hl (fun H locs hD => ?_)
  refine wb_arr (q := (29, i)) (v := 1024) (na := 1024) (cl1 := 3) (sl1 := 3072) (pc3 := 31) hB dX4_init_22 (fun H locs rest k => lv_sipush hB.1.1 hB.1.2.1 dX4_init_23 (by decide) k) dX4_init_26 dX4_init_28 fbX4_18 (by decide) rfl rfl rfl ac_int rfl rfl rfl rfl rfl (by decide) (by decide) (Nat.le_of_ble_eq_true rfl) (Nat.le_of_ble_eq_true rfl) (Nat.le_of_ble_eq_true rfl) (hz _ (List.mem_of_getElem? (i := 2) rfl)) (hg 2 _ rfl) (fun a => ⟨rfl, rfl⟩) hD hl (fun H locs hD => ?_)
  refine wb_arr (q := (30, i)) (v := 1025) (na := 1025) (cl1 := 4) (sl1 := 4097) (pc3 := 40) hB dX4_init_31 (fun H locs rest k => lv_sipush hB.1.1 hB.1.2.1 dX4_init_32 (by decide) k) dX4_init_35 dX4_init_37 fbX4_21 (by decide) rfl rfl rfl ac_int rfl rfl rfl rfl rfl (by decide) (by decide) (Nat.le_of_ble_eq_true rfl) (Nat.le_of_ble_eq_true rfl) (Nat.le_of_ble_eq_true rfl) (hz _ (List.mem_of_getElem? (i := 3) rfl)) (hg 3 _ rfl) (fun a => ⟨rfl, rfl⟩) hD hl (fun H locs hD => ?_)
  refine wb_arr (q := (31, i)) (v := 1024) (na := 1024) (cl1 := 5) (sl1 := 5121) (pc3 := 49) hB dX4_init_40 (fun H locs rest k => lv_sipush hB.1.1 hB.1.2.1 dX4_init_41 (by decide) k) dX4_init_44 dX4_init_46 fbX4_24 (by decide) rfl rfl rfl ac_int rfl rfl rfl rfl rfl (by decide) (by decide) (Nat.le_of_ble_eq_true rfl) (Nat.le_of_ble_eq_true rfl) (Nat.le_of_ble_eq_true rfl) (hz _ (List.mem_of_getElem? (i := 4) rfl)) (hg 4 _ rfl) (fun a => ⟨rfl, rfl⟩) hD hl (fun H locs hD => ?_)
  refine wb_arr (q := (32, i)) (v := 1024) (na := 1024) (cl1 := 6) (sl1 := 6145) (pc3 := 58) hB dX4_init_49 (fun H locs rest k => lv_sipush hB.1.1 hB.1.2.1 dX4_init_50 (by decide) k) dX4_init_53 dX4_init_55 fbX4_27 (by decide) rfl rfl rfl ac_int rfl rfl rfl rfl rfl (by decide) (by decide) (Nat.le_of_ble_eq_true rfl) (Nat.le_of_ble_eq_true rfl) (Nat.le_of_ble_eq_true rfl) (hz _ (List.mem_of_getElem? (i := 5) rfl)) (hg 5 _ rfl) (fun a => ⟨rfl, rfl⟩) hD hl (fun H locs hD => ?_)
  refine wb_arr (q := (33, i)) (v := 1024) (na := 1024) (cl1 := 7) (sl1 := 7169) (pc3 := 67) hB dX4_init_58 (fun H locs rest k => lv_sipush hB.1.1 hB.1.2.1 dX4_init_59 (by decide) k) dX4_init_62 dX4_init_64 fbX4_30 (by decide) rfl rfl rfl ac_int rfl rfl rfl rfl rfl (by decide) (by decide) (Nat.le_of_ble_eq_true rfl) (Nat.le_of_ble_eq_true rfl) (Nat.le_of_ble_eq_true rfl) (hz _ (List.mem_of_getElem? (i := 6) rfl)) (hg 6 _ rfl) (fun a => ⟨rfl, rfl⟩) hD hl (fun H locs hD => ?_)
  refine wb_arr (q := (34, i)) (v := 1024) (na := 1024) (cl1 := 8) (sl1 := 8193) (pc3 := 76) hB dX4_init_67 (fun H locs rest k => lv_sipush hB.1.1 hB.1.2.1 dX4_init_68 (by decide) k) dX4_init_71 dX4_init_73 fbX4_33 (by decide) rfl rfl rfl ac_int rfl rfl rfl rfl rfl (by decide) (by decide) (Nat.le_of_ble_eq_true rfl) (Nat.le_of_ble_eq_true rfl) (Nat.le_of_ble_eq_true rfl) (hz _ (List.mem_of_getElem? (i := 7) rfl)) (hg 7 _ rfl) (fun a => ⟨rfl, rfl⟩) hD hl (fun H locs hD => ?_)
  refine wb_arr (q := (35, i)) (v := 1024) (na := 1024) (cl1 := 9) (sl1 := 9217) (pc3 := 85) hB dX4_init_76 (fun H locs rest k => lv_sipush hB.1.1 hB.1.2.1 dX4_init_77 (by decide) k) dX4_init_80 dX4_init_82 fbX4_36 (by decide) rfl rfl rfl ac_int rfl rfl rfl rfl rfl (by decide) (by decide) (Nat.le_of_ble_eq_true rfl) (Nat.le_of_ble_eq_true rfl) (Nat.le_of_ble_eq_true rfl) (hz _ (List.mem_of_getElem? (i := 8) rfl)) (hg 8 _ rfl) (fun a => ⟨rfl, rfl⟩) hD hl (fun H locs hD => ?_)
  refine wb_arr (q := (36, i)) (v := 1024) (na := 1024) (cl1 := 10) (sl1 := 10241) (pc3 := 94) hB dX4_init_85 (fun H locs rest k => lv_sipush hB.1.1 hB.1.2.1 dX4_init_86 (by decide) k) dX4_init_89 dX4_init_91 fbX4_39 (by decide) rfl rfl rfl ac_int rfl rfl rfl rfl rfl (by decide) (by decide) (Nat.le_of_ble_eq_true rfl) (Nat.le_of_ble_eq_true rfl) (Nat.le_of_ble_eq_true rfl) (hz _ (List.mem_of_getElem? (i := 9) rfl)) (hg 9 _ rfl) (fun a => ⟨rfl, rfl⟩) hD hl (fun H locs hD => ?_)
  have e : wB G σ [10, 9, 8, 7, 6, 5, 4, 3, 2, 1] 5 i 4 (LnX4 i) = cw G σ ((5, i) :: LnX4 i) := by unfold wB; rw [eB_full rfl (by decide) (of_decide_eq_true rfl)]; rfl
  have hP : va_P G.1 classes (wB G σ [10, 9, 8, 7, 6, 5, 4, 3, 2, 1] 5 i 4 (LnX4 i)) H := hD.1
  have hDD : va_D (AB G 5 i s.heap.size) (wB G σ [10, 9, 8, 7, 6, 5, 4, 3, 2, 1] 5 i 4 (LnX4 i)) := hD.2.1
  rw [e] at hP hDD
  exact hend H locs ls _ σ FR.rf rfl hD.2.2.2.1 hP hDD hD.2.2.1 dX4_init_94
def LnX5 (i : Nat) : List (Nat × Nat) := [(37, i), (38, i), (39, i)]
theorem k_X5 {l : Launch} {G : GG} {σ : St} {i sz : Nat} (hR : RO σ) (hz : ZL σ (LnX5 i)) (hg : HG G sz (LnX5 i)) : KM l kX5_init G σ 6 i 5 sz [] ((6, i) :: LnX5 i) 3 3072 (fun τ => τ = σ) := by
  refine met_B (by decide +kernel) rfl rfl hR (Nat.le_of_ble_eq_true rfl) ?_
  intro p e s mid below meth c Z hB hsz hend H locs ls hD hl
  subst hsz
  have hl : lv_has ls 1 [(0, .ref (G.2.2.1 6 i))] := hl
  refine wb_obj0 hB dX5_init_0 dX5_init_1 (tb_2 140 rfl rfl) (by decide) hl ?_
  refine wb_arr (q := (37, i)) (v := 1024) (na := 1024) (cl1 := 1) (sl1 := 1024) (pc3 := 13) hB dX5_init_4 (fun H locs rest k => lv_sipush hB.1.1 hB.1.2.1 dX5_init_5 (by decide) k) dX5_init_8 dX5_init_10 fbX5_9 (by decide) rfl rfl rfl ac_int rfl rfl rfl rfl rfl (by decide) (by decide) (Nat.le_of_ble_eq_true rfl) (Nat.le_of_ble_eq_true rfl) (Nat.le_of_ble_eq_true rfl) (hz _ (List.mem_of_getElem? (i := 0) rfl)) (hg 0 _ rfl) (fun a => ⟨rfl, rfl⟩) hD hl (fun H locs hD => ?_)
  refine wb_arr (q := (38, i)) (v := 1024) (na := 1024) (cl1 := 2) (sl1 := 2048) (pc3 := 22) hB dX5_init_13 (fun H locs rest k => lv_sipush hB.1.1 hB.1.2.1 dX5_init_14 (by decide) k) dX5_init_17 dX5_init_19 fbX5_15 (by decide) rfl rfl rfl ac_int rfl rfl rfl rfl rfl (by decide) (by decide) (Nat.le_of_ble_eq_true rfl) (Nat.le_of_ble_eq_true rfl) (Nat.le_of_ble_eq_true rfl) (hz _ (List.mem_of_getElem? (i := 1) rfl)) (hg 1 _ rfl) (fun a => ⟨rfl, rfl⟩) hD hl (fun H locs hD => ?_)
  refine wb_arr (q := (39, i)) (v := 1024) (na := 1024) (cl1 := 3) (sl1 := 3072) (pc3 := 31) hB dX5_init_22 (fun H locs rest k => lv_sipush hB.1.1 hB.1.2.1 dX5_init_23 (by decide) k) dX5_init_26 dX5_init_28 fbX5_18 (by decide) rfl rfl rfl ac_int rfl rfl rfl rfl rfl (by decide) (by decide) (Nat.le_of_ble_eq_true rfl) (Nat.le_of_ble_eq_true rfl) (Nat.le_of_ble_eq_true rfl) (hz _ (List.mem_of_getElem? (i := 2) rfl)) (hg 2 _ rfl) (fun a => ⟨rfl, rfl⟩) hD hl (fun H locs hD => ?_)
  have e : wB G σ [2, 1, 0] 6 i 5 (LnX5 i) = cw G σ ((6, i) :: LnX5 i) := by unfold wB; rw [eB_full rfl (by decide) (of_decide_eq_true rfl)]; rfl
  have hP : va_P G.1 classes (wB G σ [2, 1, 0] 6 i 5 (LnX5 i)) H := hD.1
  have hDD : va_D (AB G 6 i s.heap.size) (wB G σ [2, 1, 0] 6 i 5 (LnX5 i)) := hD.2.1
  rw [e] at hP hDD
  exact hend H locs ls _ σ FR.rf rfl hD.2.2.2.1 hP hDD hD.2.2.1 dX5_init_31
def LnX6 (i : Nat) : List (Nat × Nat) := [(40, i), (41, i), (42, i), (43, i), (44, i), (45, i)]
theorem k_X6 {l : Launch} {G : GG} {σ : St} {i sz : Nat} (hR : RO σ) (hz : ZL σ (LnX6 i)) (hg : HG G sz (LnX6 i)) : KM l kX6_init G σ 7 i 6 sz [] ((7, i) :: LnX6 i) 6 120 (fun τ => τ = σ) := by
  refine met_B (by decide +kernel) rfl rfl hR (Nat.le_of_ble_eq_true rfl) ?_
  intro p e s mid below meth c Z hB hsz hend H locs ls hD hl
  subst hsz
  have hl : lv_has ls 1 [(0, .ref (G.2.2.1 7 i))] := hl
  refine wb_obj0 hB dX6_init_0 dX6_init_1 (tb_3 9 rfl rfl) (by decide) hl ?_
  refine wb_arr (q := (40, i)) (v := 20) (na := 20) (cl1 := 1) (sl1 := 20) (pc3 := 12) hB dX6_init_4 (fun H locs rest k => lv_bipush hB.1.1 hB.1.2.1 dX6_init_5 (by decide) k) dX6_init_7 dX6_init_9 fbX6_9 (by decide) rfl rfl rfl ac_int rfl rfl rfl rfl rfl (by decide) (by decide) (Nat.le_of_ble_eq_true rfl) (Nat.le_of_ble_eq_true rfl) (Nat.le_of_ble_eq_true rfl) (hz _ (List.mem_of_getElem? (i := 0) rfl)) (hg 0 _ rfl) (fun a => ⟨rfl, rfl⟩) hD hl (fun H locs hD => ?_)
  refine wb_arr (q := (41, i)) (v := 20) (na := 20) (cl1 := 2) (sl1 := 40) (pc3 := 20) hB dX6_init_12 (fun H locs rest k => lv_bipush hB.1.1 hB.1.2.1 dX6_init_13 (by decide) k) dX6_init_15 dX6_init_17 fbX6_15 (by decide) rfl rfl rfl ac_int rfl rfl rfl rfl rfl (by decide) (by decide) (Nat.le_of_ble_eq_true rfl) (Nat.le_of_ble_eq_true rfl) (Nat.le_of_ble_eq_true rfl) (hz _ (List.mem_of_getElem? (i := 1) rfl)) (hg 1 _ rfl) (fun a => ⟨rfl, rfl⟩) hD hl (fun H locs hD => ?_)
  refine wb_arr (q := (42, i)) (v := 20) (na := 20) (cl1 := 3) (sl1 := 60) (pc3 := 28) hB dX6_init_20 (fun H locs rest k => lv_bipush hB.1.1 hB.1.2.1 dX6_init_21 (by decide) k) dX6_init_23 dX6_init_25 fbX6_18 (by decide) rfl rfl rfl ac_int rfl rfl rfl rfl rfl (by decide) (by decide) (Nat.le_of_ble_eq_true rfl) (Nat.le_of_ble_eq_true rfl) (Nat.le_of_ble_eq_true rfl) (hz _ (List.mem_of_getElem? (i := 2) rfl)) (hg 2 _ rfl) (fun a => ⟨rfl, rfl⟩) hD hl (fun H locs hD => ?_)
  refine wb_arr (q := (43, i)) (v := 20) (na := 20) (cl1 := 4) (sl1 := 80) (pc3 := 36) hB dX6_init_28 (fun H locs rest k => lv_bipush hB.1.1 hB.1.2.1 dX6_init_29 (by decide) k) dX6_init_31 dX6_init_33 fbX6_21 (by decide) rfl rfl rfl ac_int rfl rfl rfl rfl rfl (by decide) (by decide) (Nat.le_of_ble_eq_true rfl) (Nat.le_of_ble_eq_true rfl) (Nat.le_of_ble_eq_true rfl) (hz _ (List.mem_of_getElem? (i := 3) rfl)) (hg 3 _ rfl) (fun a => ⟨rfl, rfl⟩) hD hl (fun H locs hD => ?_)
  refine wb_arr (q := (44, i)) (v := 20) (na := 20) (cl1 := 5) (sl1 := 100) (pc3 := 44) hB dX6_init_36 (fun H locs rest k => lv_bipush hB.1.1 hB.1.2.1 dX6_init_37 (by decide) k) dX6_init_39 dX6_init_41 fbX6_24 (by decide) rfl rfl rfl ac_int rfl rfl rfl rfl rfl (by decide) (by decide) (Nat.le_of_ble_eq_true rfl) (Nat.le_of_ble_eq_true rfl) (Nat.le_of_ble_eq_true rfl) (hz _ (List.mem_of_getElem? (i := 4) rfl)) (hg 4 _ rfl) (fun a => ⟨rfl, rfl⟩) hD hl (fun H locs hD => ?_)
  refine wb_arr (q := (45, i)) (v := 20) (na := 20) (cl1 := 6) (sl1 := 120) (pc3 := 52) hB dX6_init_44 (fun H locs rest k => lv_bipush hB.1.1 hB.1.2.1 dX6_init_45 (by decide) k) dX6_init_47 dX6_init_49 fbX6_27 (by decide) rfl rfl rfl ac_int rfl rfl rfl rfl rfl (by decide) (by decide) (Nat.le_of_ble_eq_true rfl) (Nat.le_of_ble_eq_true rfl) (Nat.le_of_ble_eq_true rfl) (hz _ (List.mem_of_getElem? (i := 5) rfl)) (hg 5 _ rfl) (fun a => ⟨rfl, rfl⟩) hD hl (fun H locs hD => ?_)
  have e : wB G σ [8, 7, 6, 5, 4, 3] 7 i 6 (LnX6 i) = cw G σ ((7, i) :: LnX6 i) := by unfold wB; rw [eB_full rfl (by decide) (of_decide_eq_true rfl)]; rfl
  have hP : va_P G.1 classes (wB G σ [8, 7, 6, 5, 4, 3] 7 i 6 (LnX6 i)) H := hD.1
  have hDD : va_D (AB G 7 i s.heap.size) (wB G σ [8, 7, 6, 5, 4, 3] 7 i 6 (LnX6 i)) := hD.2.1
  rw [e] at hP hDD
  exact hend H locs ls _ σ FR.rf rfl hD.2.2.2.1 hP hDD hD.2.2.1 dX6_init_52
def LnX7 (i : Nat) : List (Nat × Nat) := [(46, i)]
theorem k_X7 {l : Launch} {G : GG} {σ : St} {i sz : Nat} (hR : RO σ) (hz : ZL σ (LnX7 i)) (hg : HG G sz (LnX7 i)) : KM l kX7_init G σ 8 i 7 sz [] ((8, i) :: LnX7 i) 1 700 (fun τ => τ = σ) := by
  refine met_B (by decide +kernel) rfl rfl hR (Nat.le_of_ble_eq_true rfl) ?_
  intro p e s mid below meth c Z hB hsz hend H locs ls hD hl
  subst hsz
  have hl : lv_has ls 1 [(0, .ref (G.2.2.1 8 i))] := hl
  refine wb_obj0 hB dX7_init_0 dX7_init_1 (tb_1 38 rfl rfl) (by decide) hl ?_
  refine wb_arr (q := (46, i)) (v := 700) (na := 700) (cl1 := 1) (sl1 := 700) (pc3 := 13) hB dX7_init_4 (fun H locs rest k => lv_sipush hB.1.1 hB.1.2.1 dX7_init_5 (by decide) k) dX7_init_8 dX7_init_10 fbX7_9 (by decide) rfl rfl rfl ac_byte rfl rfl rfl rfl rfl (by decide) (by decide) (Nat.le_of_ble_eq_true rfl) (Nat.le_of_ble_eq_true rfl) (Nat.le_of_ble_eq_true rfl) (hz _ (List.mem_of_getElem? (i := 0) rfl)) (hg 0 _ rfl) (fun a => ⟨rfl, rfl⟩) hD hl (fun H locs hD => ?_)
  have e : wB G σ [0] 8 i 7 (LnX7 i) = cw G σ ((8, i) :: LnX7 i) := by unfold wB; rw [eB_full rfl (by decide) (of_decide_eq_true rfl)]; rfl
  have hP : va_P G.1 classes (wB G σ [0] 8 i 7 (LnX7 i)) H := hD.1
  have hDD : va_D (AB G 8 i s.heap.size) (wB G σ [0] 8 i 7 (LnX7 i)) := hD.2.1
  rw [e] at hP hDD
  exact hend H locs ls _ σ FR.rf rfl hD.2.2.2.1 hP hDD hD.2.2.1 dX7_init_13
def LnX8 (i : Nat) : List (Nat × Nat) := [(47, i), (48, i), (49, i), (50, i), (51, i), (52, i), (53, i)]
theorem k_X8 {l : Launch} {G : GG} {σ : St} {i sz : Nat} (hR : RO σ) (hz : ZL σ (LnX8 i)) (hg : HG G sz (LnX8 i)) : KM l kX8_init G σ 9 i 8 sz [] ((9, i) :: LnX8 i) 7 348 (fun τ => τ = σ) := by
  refine met_B (by decide +kernel) rfl rfl hR (Nat.le_of_ble_eq_true rfl) ?_
  intro p e s mid below meth c Z hB hsz hend H locs ls hD hl
  subst hsz
  have hl : lv_has ls 1 [(0, .ref (G.2.2.1 9 i))] := hl
  refine wb_obj0 hB dX8_init_0 dX8_init_1 (tb_2 161 rfl rfl) (by decide) hl ?_
  refine wb_arr (q := (47, i)) (v := 12) (na := 12) (cl1 := 1) (sl1 := 12) (pc3 := 12) hB dX8_init_4 (fun H locs rest k => lv_bipush hB.1.1 hB.1.2.1 dX8_init_5 (by decide) k) dX8_init_7 dX8_init_9 fbX8_9 (by decide) rfl rfl rfl ac_int rfl rfl rfl rfl rfl (by decide) (by decide) (Nat.le_of_ble_eq_true rfl) (Nat.le_of_ble_eq_true rfl) (Nat.le_of_ble_eq_true rfl) (hz _ (List.mem_of_getElem? (i := 0) rfl)) (hg 0 _ rfl) (fun a => ⟨rfl, rfl⟩) hD hl (fun H locs hD => ?_)
  refine wb_arr (q := (48, i)) (v := 12) (na := 12) (cl1 := 2) (sl1 := 24) (pc3 := 20) hB dX8_init_12 (fun H locs rest k => lv_bipush hB.1.1 hB.1.2.1 dX8_init_13 (by decide) k) dX8_init_15 dX8_init_17 fbX8_15 (by decide) rfl rfl rfl ac_int rfl rfl rfl rfl rfl (by decide) (by decide) (Nat.le_of_ble_eq_true rfl) (Nat.le_of_ble_eq_true rfl) (Nat.le_of_ble_eq_true rfl) (hz _ (List.mem_of_getElem? (i := 1) rfl)) (hg 1 _ rfl) (fun a => ⟨rfl, rfl⟩) hD hl (fun H locs hD => ?_)
  refine wb_arr (q := (49, i)) (v := 144) (na := 144) (cl1 := 3) (sl1 := 168) (pc3 := 29) hB dX8_init_20 (fun H locs rest k => lv_sipush hB.1.1 hB.1.2.1 dX8_init_21 (by decide) k) dX8_init_24 dX8_init_26 fbX8_18 (by decide) rfl rfl rfl ac_int rfl rfl rfl rfl rfl (by decide) (by decide) (Nat.le_of_ble_eq_true rfl) (Nat.le_of_ble_eq_true rfl) (Nat.le_of_ble_eq_true rfl) (hz _ (List.mem_of_getElem? (i := 2) rfl)) (hg 2 _ rfl) (fun a => ⟨rfl, rfl⟩) hD hl (fun H locs hD => ?_)
  refine wb_arr (q := (50, i)) (v := 144) (na := 144) (cl1 := 4) (sl1 := 312) (pc3 := 38) hB dX8_init_29 (fun H locs rest k => lv_sipush hB.1.1 hB.1.2.1 dX8_init_30 (by decide) k) dX8_init_33 dX8_init_35 fbX8_21 (by decide) rfl rfl rfl ac_int rfl rfl rfl rfl rfl (by decide) (by decide) (Nat.le_of_ble_eq_true rfl) (Nat.le_of_ble_eq_true rfl) (Nat.le_of_ble_eq_true rfl) (hz _ (List.mem_of_getElem? (i := 3) rfl)) (hg 3 _ rfl) (fun a => ⟨rfl, rfl⟩) hD hl (fun H locs hD => ?_)
  refine wb_arr (q := (51, i)) (v := 12) (na := 12) (cl1 := 5) (sl1 := 324) (pc3 := 46) hB dX8_init_38 (fun H locs rest k => lv_bipush hB.1.1 hB.1.2.1 dX8_init_39 (by decide) k) dX8_init_41 dX8_init_43 fbX8_24 (by decide) rfl rfl rfl ac_int rfl rfl rfl rfl rfl (by decide) (by decide) (Nat.le_of_ble_eq_true rfl) (Nat.le_of_ble_eq_true rfl) (Nat.le_of_ble_eq_true rfl) (hz _ (List.mem_of_getElem? (i := 4) rfl)) (hg 4 _ rfl) (fun a => ⟨rfl, rfl⟩) hD hl (fun H locs hD => ?_)
  refine wb_arr (q := (52, i)) (v := 12) (na := 12) (cl1 := 6) (sl1 := 336) (pc3 := 54) hB dX8_init_46 (fun H locs rest k => lv_bipush hB.1.1 hB.1.2.1 dX8_init_47 (by decide) k) dX8_init_49 dX8_init_51 fbX8_27 (by decide) rfl rfl rfl ac_int rfl rfl rfl rfl rfl (by decide) (by decide) (Nat.le_of_ble_eq_true rfl) (Nat.le_of_ble_eq_true rfl) (Nat.le_of_ble_eq_true rfl) (hz _ (List.mem_of_getElem? (i := 5) rfl)) (hg 5 _ rfl) (fun a => ⟨rfl, rfl⟩) hD hl (fun H locs hD => ?_)
  refine wb_arr (q := (53, i)) (v := 12) (na := 12) (cl1 := 7) (sl1 := 348) (pc3 := 62) hB dX8_init_54 (fun H locs rest k => lv_bipush hB.1.1 hB.1.2.1 dX8_init_55 (by decide) k) dX8_init_57 dX8_init_59 fbX8_30 (by decide) rfl rfl rfl ac_int rfl rfl rfl rfl rfl (by decide) (by decide) (Nat.le_of_ble_eq_true rfl) (Nat.le_of_ble_eq_true rfl) (Nat.le_of_ble_eq_true rfl) (hz _ (List.mem_of_getElem? (i := 6) rfl)) (hg 6 _ rfl) (fun a => ⟨rfl, rfl⟩) hD hl (fun H locs hD => ?_)
  have e : wB G σ [7, 6, 5, 4, 3, 2, 1] 9 i 8 (LnX8 i) = cw G σ ((9, i) :: LnX8 i) := by unfold wB; rw [eB_full rfl (by decide) (of_decide_eq_true rfl)]; rfl
  have hP : va_P G.1 classes (wB G σ [7, 6, 5, 4, 3, 2, 1] 9 i 8 (LnX8 i)) H := hD.1
  have hDD : va_D (AB G 9 i s.heap.size) (wB G σ [7, 6, 5, 4, 3, 2, 1] 9 i 8 (LnX8 i)) := hD.2.1
  rw [e] at hP hDD
  exact hend H locs ls _ σ FR.rf rfl hD.2.2.2.1 hP hDD hD.2.2.1 dX8_init_62
def LnX10 (i : Nat) : List (Nat × Nat) := [(62, i)]
theorem k_X10 {l : Launch} {G : GG} {σ : St} {i sz : Nat} (hR : RO σ) (hz : ZL σ (LnX10 i)) (hg : HG G sz (LnX10 i)) : KM l kX10_init G σ 11 i 10 sz [] ((11, i) :: LnX10 i) 1 10 (fun τ => τ = σ) := by
  refine met_B (by decide +kernel) rfl rfl hR (Nat.le_of_ble_eq_true rfl) ?_
  intro p e s mid below meth c Z hB hsz hend H locs ls hD hl
  subst hsz
  have hl : lv_has ls 1 [(0, .ref (G.2.2.1 11 i))] := hl
  refine wb_obj0 hB dX10_init_0 dX10_init_1 (tb_2 211 rfl rfl) (by decide) hl ?_
  refine wb_arr (q := (62, i)) (v := 10) (na := 10) (cl1 := 1) (sl1 := 10) (pc3 := 12) hB dX10_init_4 (fun H locs rest k => lv_bipush hB.1.1 hB.1.2.1 dX10_init_5 (by decide) k) dX10_init_7 dX10_init_9 fbX10_9 (by decide) rfl rfl rfl ac_int rfl rfl rfl rfl rfl (by decide) (by decide) (Nat.le_of_ble_eq_true rfl) (Nat.le_of_ble_eq_true rfl) (Nat.le_of_ble_eq_true rfl) (hz _ (List.mem_of_getElem? (i := 0) rfl)) (hg 0 _ rfl) (fun a => ⟨rfl, rfl⟩) hD hl (fun H locs hD => ?_)
  have e : wB G σ [6] 11 i 10 (LnX10 i) = cw G σ ((11, i) :: LnX10 i) := by unfold wB; rw [eB_full rfl (by decide) (of_decide_eq_true rfl)]; rfl
  have hP : va_P G.1 classes (wB G σ [6] 11 i 10 (LnX10 i)) H := hD.1
  have hDD : va_D (AB G 11 i s.heap.size) (wB G σ [6] 11 i 10 (LnX10 i)) := hD.2.1
  rw [e] at hP hDD
  exact hend H locs ls _ σ FR.rf rfl hD.2.2.2.1 hP hDD hD.2.2.1 dX10_init_12
