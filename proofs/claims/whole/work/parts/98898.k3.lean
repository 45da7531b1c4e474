/-! ===== constructors: Land, Reader ===== -/
theorem up_ne {σ : St} {c i j : Nat} {x : Int} {q : Nat × Nat} {k : Nat} (h : q ≠ (c, i)) : up σ c i j x q.1 q.2 k = σ q.1 q.2 k := by
  unfold up
  rw [if_neg]
  rintro ⟨h1, h2, -⟩
  exact h (Prod.ext h1 h2)
theorem inL_sub {L K : List (Nat × Nat)} (h : ∀ q ∈ L, q ∈ K) {c i j : Nat} (z : inL L c i j) : inL K c i j := h _ z
abbrev kX1_init : MI := (yX1_init, cX1_init, 1, none, 4)
theorem moX1_init : MO kX1_init 0 := ⟨(tb_2 14 rfl rfl), (tb_1 8 rfl rfl), ⟨by decide, by decide, by decide +kernel⟩, by decide +kernel, by decide⟩
theorem dX1_init_0 : decode cX1_init 0 = .ok (.aload_n 0, 1) := by decide +kernel
theorem dX1_init_1 : decode cX1_init 1 = .ok (.invokespecial 3, 3) := by decide +kernel
theorem dX1_init_4 : decode cX1_init 4 = .ok (.aload_n 0, 1) := by decide +kernel
theorem dX1_init_5 : decode cX1_init 5 = .ok (.new 9, 3) := by decide +kernel
theorem dX1_init_8 : decode cX1_init 8 = .ok (.dup, 1) := by decide +kernel
theorem dX1_init_9 : decode cX1_init 9 = .ok (.invokespecial 11, 3) := by decide +kernel
theorem dX1_init_12 : decode cX1_init 12 = .ok (.putfield 12, 3) := by decide +kernel
theorem dX1_init_15 : decode cX1_init 15 = .ok (.aload_n 0, 1) := by decide +kernel
theorem dX1_init_16 : decode cX1_init 16 = .ok (.new 18, 3) := by decide +kernel
theorem dX1_init_19 : decode cX1_init 19 = .ok (.dup, 1) := by decide +kernel
theorem dX1_init_20 : decode cX1_init 20 = .ok (.invokespecial 20, 3) := by decide +kernel
theorem dX1_init_23 : decode cX1_init 23 = .ok (.putfield 21, 3) := by decide +kernel
theorem dX1_init_26 : decode cX1_init 26 = .ok (.aload_n 0, 1) := by decide +kernel
theorem dX1_init_27 : decode cX1_init 27 = .ok (.new 25, 3) := by decide +kernel
theorem dX1_init_30 : decode cX1_init 30 = .ok (.dup, 1) := by decide +kernel
theorem dX1_init_31 : decode cX1_init 31 = .ok (.invokespecial 27, 3) := by decide +kernel
theorem dX1_init_34 : decode cX1_init 34 = .ok (.putfield 28, 3) := by decide +kernel
theorem dX1_init_37 : decode cX1_init 37 = .ok (.aload_n 0, 1) := by decide +kernel
theorem dX1_init_38 : decode cX1_init 38 = .ok (.sipush 144, 3) := by decide +kernel
theorem dX1_init_41 : decode cX1_init 41 = .ok (.newarray .int, 2) := by decide +kernel
theorem dX1_init_43 : decode cX1_init 43 = .ok (.putfield 32, 3) := by decide +kernel
theorem dX1_init_46 : decode cX1_init 46 = .ok (.return_, 1) := by decide +kernel
theorem fbX1_12 : FPB RX1 12 1 0 (.object "CustomValley$Valley") := ⟨RX1, TX1, 7, rfl, by decide, rfl, (tb_2 100 rfl rfl), by decide +kernel, fun _ => rfl⟩
theorem fbX1_21 : FPB RX1 21 1 1 (.object "CustomValley$Replies") := ⟨RX1, TX1, 7, rfl, by decide, rfl, (tb_2 106 rfl rfl), by decide +kernel, fun _ => rfl⟩
theorem fbX1_28 : FPB RX1 28 1 2 (.object "CustomValley$Rests") := ⟨RX1, TX1, 7, rfl, by decide, rfl, (tb_2 110 rfl rfl), by decide +kernel, fun _ => rfl⟩
theorem fbX1_32 : FPB RX1 32 1 3 (.array .int) := ⟨RX1, TX1, 7, rfl, by decide, rfl, (tb_2 115 rfl rfl), by decide +kernel, fun _ => rfl⟩
theorem dfX1 (i j : Nat) (h : j < 7) : defaultValue (tyX1 j) = dfl 2 i j := match j, h with
  | 0, _ => rfl
  | 1, _ => rfl
  | 2, _ => rfl
  | 3, _ => rfl
  | 4, _ => rfl
  | 5, _ => rfl
  | 6, _ => rfl
  | j + 7, h => absurd h (by omega)
abbrev kX2_init : MI := (yX2_init, cX2_init, 2, none, 4)
theorem moX2_init : MO kX2_init 1 := ⟨(tb_1 54 rfl rfl), (tb_1 3 rfl rfl), ⟨by decide, by decide, by decide +kernel⟩, by decide +kernel, by decide⟩
theorem dX2_init_0 : decode cX2_init 0 = .ok (.aload_n 0, 1) := by decide +kernel
theorem dX2_init_1 : decode cX2_init 1 = .ok (.invokespecial 3, 3) := by decide +kernel
theorem dX2_init_4 : decode cX2_init 4 = .ok (.aload_n 0, 1) := by decide +kernel
theorem dX2_init_5 : decode cX2_init 5 = .ok (.new 9, 3) := by decide +kernel
theorem dX2_init_8 : decode cX2_init 8 = .ok (.dup, 1) := by decide +kernel
theorem dX2_init_9 : decode cX2_init 9 = .ok (.invokespecial 11, 3) := by decide +kernel
theorem dX2_init_12 : decode cX2_init 12 = .ok (.putfield 12, 3) := by decide +kernel
theorem dX2_init_15 : decode cX2_init 15 = .ok (.aload_n 0, 1) := by decide +kernel
theorem dX2_init_16 : decode cX2_init 16 = .ok (.iconst (-1), 1) := by decide +kernel
theorem dX2_init_17 : decode cX2_init 17 = .ok (.putfield 18, 3) := by decide +kernel
theorem dX2_init_20 : decode cX2_init 20 = .ok (.aload_n 0, 1) := by decide +kernel
theorem dX2_init_21 : decode cX2_init 21 = .ok (.aload_n 1, 1) := by decide +kernel
theorem dX2_init_22 : decode cX2_init 22 = .ok (.putfield 22, 3) := by decide +kernel
theorem dX2_init_25 : decode cX2_init 25 = .ok (.return_, 1) := by decide +kernel
theorem fbX2_12 : FPB RX2 12 2 1 (.object "CustomValley$Valley") := ⟨RX2, TX2, 12, rfl, by decide, rfl, (tb_1 211 rfl rfl), by decide +kernel, fun _ => rfl⟩
theorem fbX2_18 : FPB RX2 18 2 3 (.int) := ⟨RX2, TX2, 12, rfl, by decide, rfl, (tb_1 215 rfl rfl), by decide +kernel, fun _ => rfl⟩
theorem fbX2_22 : FPB RX2 22 2 0 (.object "CustomValley$Tape") := ⟨RX2, TX2, 12, rfl, by decide, rfl, (tb_1 210 rfl rfl), by decide +kernel, fun _ => rfl⟩
theorem dfX2 (i j : Nat) (h : j < 12) : defaultValue (tyX2 j) = dfl 3 i j := match j, h with
  | 0, _ => rfl
  | 1, _ => rfl
  | 2, _ => rfl
  | 3, _ => rfl
  | 4, _ => rfl
  | 5, _ => rfl
  | 6, _ => rfl
  | 7, _ => rfl
  | 8, _ => rfl
  | 9, _ => rfl
  | 10, _ => rfl
  | 11, _ => rfl
  | j + 12, h => absurd h (by omega)
def LnX1_0 : List (Nat × Nat) := [(10, 0), (54, 0), (55, 0), (56, 0), (57, 0), (58, 0), (59, 0), (60, 0), (61, 0), (4, 0), (23, 0), (24, 0), (25, 0), (26, 0), (5, 0), (27, 0), (28, 0), (29, 0), (30, 0), (31, 0), (32, 0), (33, 0), (34, 0), (35, 0), (36, 0), (22, 0)]
theorem k_X1_0 {l : Launch} {G : GG} {σ : St} {sz : Nat} (hR : RO σ) (hz : ZL σ ((2, 0) :: LnX1_0)) (hg : HG G sz LnX1_0) : KM l kX1_init G σ 2 0 1 sz [] ((2, 0) :: LnX1_0) 26 21840 (fun τ => VA τ 0 (mV D0) ∧ τ 10 0 4 = 0 ∧ ∀ j, τ 2 0 j = 0) := by
  refine met_B (by decide +kernel) rfl rfl hR (Nat.le_of_ble_eq_true rfl) ?_
  intro p e s mid below meth c Z hB hsz hend H locs ls hD hl
  subst hsz
  have hl : lv_has ls 1 [(0, .ref (G.2.2.1 2 0))] := hl
  refine wb_obj0 hB dX1_init_0 dX1_init_1 (tb_2 15 rfl rfl) (by decide) hl ?_
  refine wb_new (c1 := 10) (i1 := 0) (ci1 := 9) (ty0 := tyX9) (cl1 := 1) (sl1 := 18) (pc3 := 9) hB dX1_init_4 dX1_init_5 dX1_init_8 rfl (tb_2 16 rfl rfl) (tb_1 57 rfl rfl) (tb_1 4 rfl rfl) tyX9_ok rfl (dfX9 0) (hz (10, 0) (by decide +kernel)) rfl rfl rfl (Nat.le_of_ble_eq_true rfl) (Nat.le_of_ble_eq_true rfl) (hg 0 _ rfl) hD hl (fun H locs hD => ?_)
  refine wb_call (N := kX9_init) (vs := []) (nn := 0) (Lc := ((10, 0) :: (LnX9 0))) (cl1 := 9) (sl1 := 1173) (pc3 := 12) hB dX1_init_9 (Or.inl (tb_2 17 rfl rfl)) moX9_init (tb_1 59 rfl rfl) rfl rfl (by decide) (k_X9 (sz := s.heap.size + 1) hD.2.2.2.1 (hz.sub (K := (LnX9 0)) (by decide +kernel)) (hg.sub [(10, 0)] (LnX9 0) [(4, 0), (23, 0), (24, 0), (25, 0), (26, 0), (5, 0), (27, 0), (28, 0), (29, 0), (30, 0), (31, 0), (32, 0), (33, 0), (34, 0), (35, 0), (36, 0), (22, 0)] rfl rfl)) rfl (by decide +kernel) (by decide +kernel) rfl rfl rfl (Nat.le_of_ble_eq_true rfl) (Nat.le_of_ble_eq_true rfl) hl.1 ⟨(61, 0), by decide +kernel, congrArg (fun x => x + 1) (hg 8 _ rfl)⟩ hD (fun τ1 H locs hf1 hp1 hD => ?_)
  have hz1 : ZL τ1 [(2, 0), (4, 0), (23, 0), (24, 0), (25, 0), (26, 0), (5, 0), (27, 0), (28, 0), (29, 0), (30, 0), (31, 0), (32, 0), (33, 0), (34, 0), (35, 0), (36, 0), (22, 0)] := hz.fr hf1 (by decide +kernel)
  refine wb_put (c0 := 2) (i0 := 0) (σ' := τ1) (ds' := 0 :: []) hB dX1_init_12 fbX1_12 rfl rfl (fvB_k (c := 2) (i := 0) (k := 0) (q := (10, 0)) (by decide) rfl) (fun j hj => fvB_o hj) (fun _ _ _ => rfl) hD.2.2.2.1 hD (fun H locs hD => ?_)
  refine wb_new (c1 := 4) (i1 := 0) (ci1 := 3) (ty0 := tyX3) (cl1 := 10) (sl1 := 1177) (pc3 := 20) hB dX1_init_15 dX1_init_16 dX1_init_19 rfl (tb_2 18 rfl rfl) (tb_2 19 rfl rfl) (tb_1 9 rfl rfl) tyX3_ok rfl (dfX3 0) (hz1 (4, 0) (by decide +kernel)) rfl rfl rfl (Nat.le_of_ble_eq_true rfl) (Nat.le_of_ble_eq_true rfl) (hg 9 _ rfl) hD hl (fun H locs hD => ?_)
  refine wb_call (N := kX3_init) (vs := []) (nn := 0) (Lc := ((4, 0) :: (LnX3 0))) (cl1 := 14) (sl1 := 11441) (pc3 := 23) hB dX1_init_20 (Or.inr ⟨"CustomValley", List.mem_of_getElem? (i := 2) rfl⟩) moX3_init (tb_2 21 rfl rfl) rfl rfl (by decide) (k_X3 (sz := s.heap.size + 10) hD.2.2.2.1 (hz1.sub (K := (LnX3 0)) (by decide +kernel)) (hg.sub [(10, 0), (54, 0), (55, 0), (56, 0), (57, 0), (58, 0), (59, 0), (60, 0), (61, 0), (4, 0)] (LnX3 0) [(5, 0), (27, 0), (28, 0), (29, 0), (30, 0), (31, 0), (32, 0), (33, 0), (34, 0), (35, 0), (36, 0), (22, 0)] rfl rfl)) rfl (by decide +kernel) (by decide +kernel) rfl rfl rfl (Nat.le_of_ble_eq_true rfl) (Nat.le_of_ble_eq_true rfl) hl.1 ⟨(26, 0), by decide +kernel, congrArg (fun x => x + 1) (hg 13 _ rfl)⟩ hD (fun τ2 H locs hf2 hp2 hD => ?_)
  rw [hp2] at hD
  refine wb_put (c0 := 2) (i0 := 0) (σ' := τ1) (ds' := 1 :: [0]) hB dX1_init_23 fbX1_21 rfl rfl (fvB_k (c := 2) (i := 0) (k := 1) (q := (4, 0)) (by decide) rfl) (fun j hj => fvB_o hj) (fun _ _ _ => rfl) hD.2.2.2.1 hD (fun H locs hD => ?_)
  refine wb_new (c1 := 5) (i1 := 0) (ci1 := 4) (ty0 := tyX4) (cl1 := 15) (sl1 := 11455) (pc3 := 31) hB dX1_init_26 dX1_init_27 dX1_init_30 rfl (tb_2 38 rfl rfl) (tb_2 39 rfl rfl) (tb_1 10 rfl rfl) tyX4_ok rfl (dfX4 0) (hz1 (5, 0) (by decide +kernel)) rfl rfl rfl (Nat.le_of_ble_eq_true rfl) (Nat.le_of_ble_eq_true rfl) (hg 14 _ rfl) hD hl (fun H locs hD => ?_)
  refine wb_call (N := kX4_init) (vs := []) (nn := 0) (Lc := ((5, 0) :: (LnX4 0))) (cl1 := 25) (sl1 := 21696) (pc3 := 34) hB dX1_init_31 (Or.inr ⟨"CustomValley", List.mem_of_getElem? (i := 3) rfl⟩) moX4_init (tb_2 41 rfl rfl) rfl rfl (by decide) (k_X4 (sz := s.heap.size + 15) hD.2.2.2.1 (hz1.sub (K := (LnX4 0)) (by decide +kernel)) (hg.sub [(10, 0), (54, 0), (55, 0), (56, 0), (57, 0), (58, 0), (59, 0), (60, 0), (61, 0), (4, 0), (23, 0), (24, 0), (25, 0), (26, 0), (5, 0)] (LnX4 0) [(22, 0)] rfl rfl)) rfl (by decide +kernel) (by decide +kernel) rfl rfl rfl (Nat.le_of_ble_eq_true rfl) (Nat.le_of_ble_eq_true rfl) hl.1 ⟨(36, 0), by decide +kernel, congrArg (fun x => x + 1) (hg 24 _ rfl)⟩ hD (fun τ3 H locs hf3 hp3 hD => ?_)
  rw [hp3] at hD
  refine wb_put (c0 := 2) (i0 := 0) (σ' := τ1) (ds' := 2 :: [1, 0]) hB dX1_init_34 fbX1_28 rfl rfl (fvB_k (c := 2) (i := 0) (k := 2) (q := (5, 0)) (by decide) rfl) (fun j hj => fvB_o hj) (fun _ _ _ => rfl) hD.2.2.2.1 hD (fun H locs hD => ?_)
  refine wb_arr (q := (22, 0)) (v := 144) (na := 144) (cl1 := 26) (sl1 := 21840) (pc3 := 46) hB dX1_init_37 (fun H locs rest k => lv_sipush hB.1.1 hB.1.2.1 dX1_init_38 (by decide) k) dX1_init_41 dX1_init_43 fbX1_32 (by decide) rfl rfl rfl ac_int rfl rfl rfl rfl rfl (by decide) (by decide) (Nat.le_of_ble_eq_true rfl) (Nat.le_of_ble_eq_true rfl) (Nat.le_of_ble_eq_true rfl) (hz1 (22, 0) (by decide +kernel)) (hg 25 _ rfl) (fun a => ⟨rfl, rfl⟩) hD hl (fun H locs hD => ?_)
  have e9 : wB G τ1 [3, 2, 1, 0] 2 0 1 LnX1_0 = cw G τ1 ((2, 0) :: LnX1_0) := by unfold wB; rw [eB_full rfl (by decide) (by decide +kernel)]; rfl
  have hP9 : va_P G.1 classes (wB G τ1 [3, 2, 1, 0] 2 0 1 LnX1_0) H := hD.1
  have hD9 : va_D (AB G 2 0 s.heap.size) (wB G τ1 [3, 2, 1, 0] 2 0 1 LnX1_0) := hD.2.1
  rw [e9] at hP9 hD9
  refine hend H locs ls _ τ1 ?_ ?_ hD.2.2.2.1 hP9 hD9 hD.2.2.1 dX1_init_46
  · exact hf1.wk (fun c i j h => inL_sub (by decide +kernel) h)
  · exact ⟨hp1.1, hp1.2, fun j => hz1 (2, 0) (by decide +kernel) j⟩
def LnX1_1 : List (Nat × Nat) := [(10, 1), (54, 1), (55, 1), (56, 1), (57, 1), (58, 1), (59, 1), (60, 1), (61, 1), (4, 1), (23, 1), (24, 1), (25, 1), (26, 1), (5, 1), (27, 1), (28, 1), (29, 1), (30, 1), (31, 1), (32, 1), (33, 1), (34, 1), (35, 1), (36, 1), (22, 1)]
theorem k_X1_1 {l : Launch} {G : GG} {σ : St} {sz : Nat} (hR : RO σ) (hz : ZL σ ((2, 1) :: LnX1_1)) (hg : HG G sz LnX1_1) : KM l kX1_init G σ 2 1 1 sz [] ((2, 1) :: LnX1_1) 26 21840 (fun τ => VA τ 1 (mV D0) ∧ τ 10 1 4 = 0 ∧ ∀ j, τ 2 1 j = 0) := by
  refine met_B (by decide +kernel) rfl rfl hR (Nat.le_of_ble_eq_true rfl) ?_
  intro p e s mid below meth c Z hB hsz hend H locs ls hD hl
  subst hsz
  have hl : lv_has ls 1 [(0, .ref (G.2.2.1 2 1))] := hl
  refine wb_obj0 hB dX1_init_0 dX1_init_1 (tb_2 15 rfl rfl) (by decide) hl ?_
  refine wb_new (c1 := 10) (i1 := 1) (ci1 := 9) (ty0 := tyX9) (cl1 := 1) (sl1 := 18) (pc3 := 9) hB dX1_init_4 dX1_init_5 dX1_init_8 rfl (tb_2 16 rfl rfl) (tb_1 57 rfl rfl) (tb_1 4 rfl rfl) tyX9_ok rfl (dfX9 1) (hz (10, 1) (by decide +kernel)) rfl rfl rfl (Nat.le_of_ble_eq_true rfl) (Nat.le_of_ble_eq_true rfl) (hg 0 _ rfl) hD hl (fun H locs hD => ?_)
  refine wb_call (N := kX9_init) (vs := []) (nn := 0) (Lc := ((10, 1) :: (LnX9 1))) (cl1 := 9) (sl1 := 1173) (pc3 := 12) hB dX1_init_9 (Or.inl (tb_2 17 rfl rfl)) moX9_init (tb_1 59 rfl rfl) rfl rfl (by decide) (k_X9 (sz := s.heap.size + 1) hD.2.2.2.1 (hz.sub (K := (LnX9 1)) (by decide +kernel)) (hg.sub [(10, 1)] (LnX9 1) [(4, 1), (23, 1), (24, 1), (25, 1), (26, 1), (5, 1), (27, 1), (28, 1), (29, 1), (30, 1), (31, 1), (32, 1), (33, 1), (34, 1), (35, 1), (36, 1), (22, 1)] rfl rfl)) rfl (by decide +kernel) (by decide +kernel) rfl rfl rfl (Nat.le_of_ble_eq_true rfl) (Nat.le_of_ble_eq_true rfl) hl.1 ⟨(61, 1), by decide +kernel, congrArg (fun x => x + 1) (hg 8 _ rfl)⟩ hD (fun τ1 H locs hf1 hp1 hD => ?_)
  have hz1 : ZL τ1 [(2, 1), (4, 1), (23, 1), (24, 1), (25, 1), (26, 1), (5, 1), (27, 1), (28, 1), (29, 1), (30, 1), (31, 1), (32, 1), (33, 1), (34, 1), (35, 1), (36, 1), (22, 1)] := hz.fr hf1 (by decide +kernel)
  refine wb_put (c0 := 2) (i0 := 1) (σ' := τ1) (ds' := 0 :: []) hB dX1_init_12 fbX1_12 rfl rfl (fvB_k (c := 2) (i := 1) (k := 0) (q := (10, 1)) (by decide) rfl) (fun j hj => fvB_o hj) (fun _ _ _ => rfl) hD.2.2.2.1 hD (fun H locs hD => ?_)
  refine wb_new (c1 := 4) (i1 := 1) (ci1 := 3) (ty0 := tyX3) (cl1 := 10) (sl1 := 1177) (pc3 := 20) hB dX1_init_15 dX1_init_16 dX1_init_19 rfl (tb_2 18 rfl rfl) (tb_2 19 rfl rfl) (tb_1 9 rfl rfl) tyX3_ok rfl (dfX3 1) (hz1 (4, 1) (by decide +kernel)) rfl rfl rfl (Nat.le_of_ble_eq_true rfl) (Nat.le_of_ble_eq_true rfl) (hg 9 _ rfl) hD hl (fun H locs hD => ?_)
  refine wb_call (N := kX3_init) (vs := []) (nn := 0) (Lc := ((4, 1) :: (LnX3 1))) (cl1 := 14) (sl1 := 11441) (pc3 := 23) hB dX1_init_20 (Or.inr ⟨"CustomValley", List.mem_of_getElem? (i := 2) rfl⟩) moX3_init (tb_2 21 rfl rfl) rfl rfl (by decide) (k_X3 (sz := s.heap.size + 10) hD.2.2.2.1 (hz1.sub (K := (LnX3 1)) (by decide +kernel)) (hg.sub [(10, 1), (54, 1), (55, 1), (56, 1), (57, 1), (58, 1), (59, 1), (60, 1), (61, 1), (4, 1)] (LnX3 1) [(5, 1), (27, 1), (28, 1), (29, 1), (30, 1), (31, 1), (32, 1), (33, 1), (34, 1), (35, 1), (36, 1), (22, 1)] rfl rfl)) rfl (by decide +kernel) (by decide +kernel) rfl rfl rfl (Nat.le_of_ble_eq_true rfl) (Nat.le_of_ble_eq_true rfl) hl.1 ⟨(26, 1), by decide +kernel, congrArg (fun x => x + 1) (hg 13 _ rfl)⟩ hD (fun τ2 H locs hf2 hp2 hD => ?_)
  rw [hp2] at hD
  refine wb_put (c0 := 2) (i0 := 1) (σ' := τ1) (ds' := 1 :: [0]) hB dX1_init_23 fbX1_21 rfl rfl (fvB_k (c := 2) (i := 1) (k := 1) (q := (4, 1)) (by decide) rfl) (fun j hj => fvB_o hj) (fun _ _ _ => rfl) hD.2.2.2.1 hD (fun H locs hD => ?_)
  refine wb_new (c1 := 5) (i1 := 1) (ci1 := 4) (ty0 := tyX4) (cl1 := 15) (sl1 := 11455) (pc3 := 31) hB dX1_init_26 dX1_init_27 dX1_init_30 rfl (tb_2 38 rfl rfl) (tb_2 39 rfl rfl) (tb_1 10 rfl rfl) tyX4_ok rfl (dfX4 1) (hz1 (5, 1) (by decide +kernel)) rfl rfl rfl (Nat.le_of_ble_eq_true rfl) (Nat.le_of_ble_eq_true rfl) (hg 14 _ rfl) hD hl (fun H locs hD => ?_)
  refine wb_call (N := kX4_init) (vs := []) (nn := 0) (Lc := ((5, 1) :: (LnX4 1))) (cl1 := 25) (sl1 := 21696) (pc3 := 34) hB dX1_init_31 (Or.inr ⟨"CustomValley", List.mem_of_getElem? (i := 3) rfl⟩) moX4_init (tb_2 41 rfl rfl) rfl rfl (by decide) (k_X4 (sz := s.heap.size + 15) hD.2.2.2.1 (hz1.sub (K := (LnX4 1)) (by decide +kernel)) (hg.sub [(10, 1), (54, 1), (55, 1), (56, 1), (57, 1), (58, 1), (59, 1), (60, 1), (61, 1), (4, 1), (23, 1), (24, 1), (25, 1), (26, 1), (5, 1)] (LnX4 1) [(22, 1)] rfl rfl)) rfl (by decide +kernel) (by decide +kernel) rfl rfl rfl (Nat.le_of_ble_eq_true rfl) (Nat.le_of_ble_eq_true rfl) hl.1 ⟨(36, 1), by decide +kernel, congrArg (fun x => x + 1) (hg 24 _ rfl)⟩ hD (fun τ3 H locs hf3 hp3 hD => ?_)
  rw [hp3] at hD
  refine wb_put (c0 := 2) (i0 := 1) (σ' := τ1) (ds' := 2 :: [1, 0]) hB dX1_init_34 fbX1_28 rfl rfl (fvB_k (c := 2) (i := 1) (k := 2) (q := (5, 1)) (by decide) rfl) (fun j hj => fvB_o hj) (fun _ _ _ => rfl) hD.2.2.2.1 hD (fun H locs hD => ?_)
  refine wb_arr (q := (22, 1)) (v := 144) (na := 144) (cl1 := 26) (sl1 := 21840) (pc3 := 46) hB dX1_init_37 (fun H locs rest k => lv_sipush hB.1.1 hB.1.2.1 dX1_init_38 (by decide) k) dX1_init_41 dX1_init_43 fbX1_32 (by decide) rfl rfl rfl ac_int rfl rfl rfl rfl rfl (by decide) (by decide) (Nat.le_of_ble_eq_true rfl) (Nat.le_of_ble_eq_true rfl) (Nat.le_of_ble_eq_true rfl) (hz1 (22, 1) (by decide +kernel)) (hg 25 _ rfl) (fun a => ⟨rfl, rfl⟩) hD hl (fun H locs hD => ?_)
  have e9 : wB G τ1 [3, 2, 1, 0] 2 1 1 LnX1_1 = cw G τ1 ((2, 1) :: LnX1_1) := by unfold wB; rw [eB_full rfl (by decide) (by decide +kernel)]; rfl
  have hP9 : va_P G.1 classes (wB G τ1 [3, 2, 1, 0] 2 1 1 LnX1_1) H := hD.1
  have hD9 : va_D (AB G 2 1 s.heap.size) (wB G τ1 [3, 2, 1, 0] 2 1 1 LnX1_1) := hD.2.1
  rw [e9] at hP9 hD9
  refine hend H locs ls _ τ1 ?_ ?_ hD.2.2.2.1 hP9 hD9 hD.2.2.1 dX1_init_46
  · exact hf1.wk (fun c i j h => inL_sub (by decide +kernel) h)
  · exact ⟨hp1.1, hp1.2, fun j => hz1 (2, 1) (by decide +kernel) j⟩
def LnX2 : List (Nat × Nat) := [(10, 2), (54, 2), (55, 2), (56, 2), (57, 2), (58, 2), (59, 2), (60, 2), (61, 2)]
theorem k_X2 {l : Launch} {G : GG} {σ : St} {sz : Nat} (hR : RO σ) (hz : ZL σ ((3, 0) :: LnX2)) (hg : HG G sz LnX2) : KM l kX2_init G σ 3 0 2 sz [.ref (G.2.2.1 8 0)] ((3, 0) :: LnX2) 9 1173 (fun τ => τ 3 0 2 = 0 ∧ τ 3 0 3 = -1) := by
  refine met_B (by decide +kernel) rfl rfl hR (Nat.le_of_ble_eq_true rfl) ?_
  intro p e s mid below meth c Z hB hsz hend H locs ls hD hl
  subst hsz
  have hl : lv_has ls 2 [(0, .ref (G.2.2.1 3 0)), (1, .ref (G.2.2.1 8 0))] := hl
  refine wb_obj0 hB dX2_init_0 dX2_init_1 (tb_1 55 rfl rfl) (by decide) hl ?_
  refine wb_new (c1 := 10) (i1 := 2) (ci1 := 9) (ty0 := tyX9) (cl1 := 1) (sl1 := 18) (pc3 := 9) hB dX2_init_4 dX2_init_5 dX2_init_8 rfl (tb_1 56 rfl rfl) (tb_1 57 rfl rfl) (tb_1 4 rfl rfl) tyX9_ok rfl (dfX9 2) (hz (10, 2) (by decide +kernel)) rfl rfl rfl (Nat.le_of_ble_eq_true rfl) (Nat.le_of_ble_eq_true rfl) (hg 0 _ rfl) hD hl (fun H locs hD => ?_)
  refine wb_call (N := kX9_init) (vs := []) (nn := 0) (Lc := ((10, 2) :: (LnX9 2))) (cl1 := 9) (sl1 := 1173) (pc3 := 12) hB dX2_init_9 (Or.inl (tb_1 58 rfl rfl)) moX9_init (tb_1 59 rfl rfl) rfl rfl (by decide) (k_X9 (sz := s.heap.size + 1) hD.2.2.2.1 (hz.sub (K := (LnX9 2)) (by decide +kernel)) (hg.sub [(10, 2)] (LnX9 2) [] rfl rfl)) rfl (by decide +kernel) (by decide +kernel) rfl rfl rfl (Nat.le_of_ble_eq_true rfl) (Nat.le_of_ble_eq_true rfl) hl.1 ⟨(61, 2), by decide +kernel, congrArg (fun x => x + 1) (hg 8 _ rfl)⟩ hD (fun τ1 H locs hf1 hp1 hD => ?_)
  have hz1 : ZL τ1 [(3, 0)] := hz.fr hf1 (by decide +kernel)
  refine wb_put (c0 := 3) (i0 := 0) (σ' := τ1) (ds' := 1 :: []) hB dX2_init_12 fbX2_12 rfl rfl (fvB_k (c := 3) (i := 0) (k := 1) (q := (10, 2)) (by decide) rfl) (fun j hj => fvB_o hj) (fun _ _ _ => rfl) hD.2.2.2.1 hD (fun H locs hD => ?_)
  refine lv_aload_n hB.1.1 hB.1.2.1 dX2_init_15 rfl (lv_at hl 0 rfl) ?_
  refine lv_iconst (v := -1) hB.1.1 hB.1.2.1 dX2_init_16 (by decide) ?_
  refine wb_put (c0 := 3) (i0 := 0) (v := .int (-1)) (σ' := up τ1 3 0 3 (-1)) (ds' := [1]) hB dX2_init_17 fbX2_18 rfl rfl (fvB_i (c := 3) (i := 0) (k := 3) (x := -1) (by decide) rfl rfl) (fun j hj => fvB_j hj) (fun q hq j => up_ne (fun z => absurd (z ▸ hq) (by decide +kernel))) (RO.up hD.2.2.2.1 ⟨by decide, by decide⟩ (fun _ => ⟨by decide, by decide⟩)) hD (fun H locs hD => ?_)
  skip
  refine lv_aload_n hB.1.1 hB.1.2.1 dX2_init_20 rfl (lv_at hl 0 rfl) ?_
  refine lv_aload_n hB.1.1 hB.1.2.1 dX2_init_21 rfl (lv_at hl 1 rfl) ?_
  refine wb_put (c0 := 3) (i0 := 0) (σ' := (up τ1 3 0 3 (-1))) (ds' := 0 :: [1]) hB dX2_init_22 fbX2_22 rfl rfl (fvB_k (c := 3) (i := 0) (k := 0) (q := (8, 0)) (by decide) rfl) (fun j hj => fvB_o hj) (fun _ _ _ => rfl) hD.2.2.2.1 hD (fun H locs hD => ?_)
  have e9 : wB G (up τ1 3 0 3 (-1)) [0, 1] 3 0 2 LnX2 = cw G (up τ1 3 0 3 (-1)) ((3, 0) :: LnX2) := by unfold wB; rw [eB_full rfl (by decide) (by decide +kernel)]; rfl
  have hP9 : va_P G.1 classes (wB G (up τ1 3 0 3 (-1)) [0, 1] 3 0 2 LnX2) H := hD.1
  have hD9 : va_D (AB G 3 0 s.heap.size) (wB G (up τ1 3 0 3 (-1)) [0, 1] 3 0 2 LnX2) := hD.2.1
  rw [e9] at hP9 hD9
  refine hend H locs ls _ (up τ1 3 0 3 (-1)) ?_ ?_ hD.2.2.2.1 hP9 hD9 hD.2.2.1 dX2_init_25
  · exact (hf1.wk (fun c i j h => inL_sub (by decide +kernel) h)).u List.mem_cons_self
  · exact ⟨(up_j (by decide)).trans (hz1 (3, 0) (by decide +kernel) 2), up_s _ _ _ _ _⟩
