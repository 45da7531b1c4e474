/-! ===== constructors: from building to WP; the Valley ===== -/
theorem fr_lt {c k i : Nat} {q : Nat × Nat} (h : fr c k i = some q) : c ≤ 14 ∧ k < 92 := by
  unfold fr at h
  split at h <;> first | (refine ⟨?_, ?_⟩ <;> omega) | cases h
def frs (c i : Nat) : List (Nat × Nat) := (List.range 92).filterMap (fun k => fr c k i)
theorem fr_frs {c k i : Nat} {q : Nat × Nat} (h : fr c k i = some q) : q ∈ frs c i := List.mem_filterMap.mpr ⟨k, List.mem_range.mpr (fr_lt h).2, h⟩
def gRe (G : GG) (L : List (Nat × Nat)) : GG := (G.1, G.2.1, G.2.2.1, L, G.2.2.2.2)
theorem cd_of {G : GG} {L : List (Nat × Nat)} (h : ∀ q ∈ L, 14 < q.1 ∨ ∀ q' ∈ frs q.1 q.2, q' ∈ L) : CD (gRe G L) := by
  intro q hq k q' hf
  rcases h q hq with h1 | h1
  · have := (fr_lt hf).1
    omega
  · exact h1 q' (fr_frs hf)
theorem wb_wp {M : MI} {G : GG} {A : Nat → Prop} {p : Program} {l : Launch} {e_ : Env} {R : Room} {s : State} {mid : MethodId} {args : Array Value} {below : List Frame} {meth : Method} {c : Code} {cells slots : Nat} {Z : State → Prop} {σ : St} {ds : List Nat} {c0 i0 ci : Nat} {L : List (Nat × Nat)} {H : Heap} {locs : List Loc} {ls : Array Slot} {lv : List (Nat × Value)} {pc n : Nat} {Qe : St → Prop} (m : Nat) (hB : BX M G A p R s mid args meth c) (hD : BD G A σ ds c0 i0 ci L s H locs n) (ho : oc c0 = some ci) (h13 : c0 ≠ 13) (hfull : ∀ k, k < nf ci → (fr c0 k i0).isSome = true → k ∈ ds) (hcd : CD (gRe G ((c0, i0) :: L))) (hrk : M.2.2.2.2 ≠ 12) (hc : cells ≤ R.cells) (hs : slots ≤ R.slots) (hret : M.2.2.2.1 = none) (hl : lv_has ls M.2.2.1 ((0, .ref (G.2.2.1 c0 i0)) :: lv))
    (k : WP M pc (vR c0 i0 :: List.replicate m vU) [] σ (fun r τ => r = .inl none ∧ Qe τ)) (hend : ∀ (H : Heap) (locs : List Loc) (ls : Array Slot) (pc : Nat) (τ : St), Qe τ → WD (gRe G ((c0, i0) :: L)) A τ s H locs → decode M.2.1 pc = .ok (.return_, 1) → W p l e_ R s mid args below meth c H locs cells slots Z (F0 mid pc ls [])) : W p l e_ R s mid args below meth c H locs cells slots Z (F0 mid pc ls []) := by
  have hC : CX M (gRe G ((c0, i0) :: L)) A p R s mid args meth c := hB.1
  have e : wB G σ ds c0 i0 ci L = ww (gRe G ((c0, i0) :: L)) σ := by
    unfold wB
    rw [eB_full ho h13 hfull]
    rfl
  obtain ⟨hP, hDD, hS, hRo, -⟩ := hD
  rw [e] at hP hDD
  refine k (gRe G ((c0, i0) :: L)) A p l e_ R s mid args below meth c cells slots Z hC ⟨⟨fun q => absurd q hrk, fun _ => hB.2.2.2.2.1⟩, hc, hs⟩ ⟨?_, ?_, ?_, ?_⟩ H locs ls [] ⟨hP, hDD, hS, hRo, hcd⟩ ⟨_, hl, ?_⟩ trivial
  · intro H locs τ pc ls y _ _ hq _
    exact absurd hq.1 (by simp)
  · intro H locs τ pc ls hW hd hq _
    exact hend H locs ls pc τ hq.2 hW hd
  · intro H locs τ pc ls q _ _ _ hq _
    exact absurd hq.1 (by simp)
  · intro T H locs τ pc ls st q _ _ _ _ hq _
    exact absurd hq.1 (by simp)
  · intro j a hj ha
    match j, hj with
    | 0, hj =>
      cases hj
      exact ⟨_, List.mem_cons_self, rfl, Or.inl List.mem_cons_self⟩
    | j + 1, hj =>
      rw [List.getElem?_cons_succ] at hj
      have := List.mem_of_getElem? hj
      rw [List.mem_replicate] at this
      exact absurd this.2 ha
abbrev kX9_init : MI := (yX9_init, cX9_init, 1, none, 3)
theorem moX9_init : MO kX9_init 0 := ⟨(tb_1 60 rfl rfl), (tb_1 4 rfl rfl), ⟨by decide, by decide, by decide +kernel⟩, by decide +kernel, by decide⟩
theorem dX9_init_0 : decode cX9_init 0 = .ok (.aload_n 0, 1) := by decide +kernel
theorem dX9_init_1 : decode cX9_init 1 = .ok (.invokespecial 3, 3) := by decide +kernel
theorem dX9_init_4 : decode cX9_init 4 = .ok (.aload_n 0, 1) := by decide +kernel
theorem dX9_init_5 : decode cX9_init 5 = .ok (.bipush 16, 2) := by decide +kernel
theorem dX9_init_7 : decode cX9_init 7 = .ok (.newarray .int, 2) := by decide +kernel
theorem dX9_init_9 : decode cX9_init 9 = .ok (.putfield 9, 3) := by decide +kernel
theorem dX9_init_12 : decode cX9_init 12 = .ok (.aload_n 0, 1) := by decide +kernel
theorem dX9_init_13 : decode cX9_init 13 = .ok (.iconst 4, 1) := by decide +kernel
theorem dX9_init_14 : decode cX9_init 14 = .ok (.newarray .int, 2) := by decide +kernel
theorem dX9_init_16 : decode cX9_init 16 = .ok (.putfield 15, 3) := by decide +kernel
theorem dX9_init_19 : decode cX9_init 19 = .ok (.aload_n 0, 1) := by decide +kernel
theorem dX9_init_20 : decode cX9_init 20 = .ok (.bipush 10, 2) := by decide +kernel
theorem dX9_init_22 : decode cX9_init 22 = .ok (.newarray .int, 2) := by decide +kernel
theorem dX9_init_24 : decode cX9_init 24 = .ok (.putfield 18, 3) := by decide +kernel
theorem dX9_init_27 : decode cX9_init 27 = .ok (.aload_n 0, 1) := by decide +kernel
theorem dX9_init_28 : decode cX9_init 28 = .ok (.bipush 10, 2) := by decide +kernel
theorem dX9_init_30 : decode cX9_init 30 = .ok (.newarray .int, 2) := by decide +kernel
theorem dX9_init_32 : decode cX9_init 32 = .ok (.putfield 21, 3) := by decide +kernel
theorem dX9_init_35 : decode cX9_init 35 = .ok (.aload_n 0, 1) := by decide +kernel
theorem dX9_init_36 : decode cX9_init 36 = .ok (.bipush 40, 2) := by decide +kernel
theorem dX9_init_38 : decode cX9_init 38 = .ok (.newarray .int, 2) := by decide +kernel
theorem dX9_init_40 : decode cX9_init 40 = .ok (.putfield 24, 3) := by decide +kernel
theorem dX9_init_43 : decode cX9_init 43 = .ok (.aload_n 0, 1) := by decide +kernel
theorem dX9_init_44 : decode cX9_init 44 = .ok (.bipush 40, 2) := by decide +kernel
theorem dX9_init_46 : decode cX9_init 46 = .ok (.newarray .int, 2) := by decide +kernel
theorem dX9_init_48 : decode cX9_init 48 = .ok (.putfield 27, 3) := by decide +kernel
theorem dX9_init_51 : decode cX9_init 51 = .ok (.aload_n 0, 1) := by decide +kernel
theorem dX9_init_52 : decode cX9_init 52 = .ok (.bipush 11, 2) := by decide +kernel
theorem dX9_init_54 : decode cX9_init 54 = .ok (.newarray .int, 2) := by decide +kernel
theorem dX9_init_56 : decode cX9_init 56 = .ok (.putfield 30, 3) := by decide +kernel
theorem dX9_init_59 : decode cX9_init 59 = .ok (.aload_n 0, 1) := by decide +kernel
theorem dX9_init_60 : decode cX9_init 60 = .ok (.sipush 1024, 3) := by decide +kernel
theorem dX9_init_63 : decode cX9_init 63 = .ok (.newarray .int, 2) := by decide +kernel
theorem dX9_init_65 : decode cX9_init 65 = .ok (.putfield 33, 3) := by decide +kernel
theorem dX9_init_68 : decode cX9_init 68 = .ok (.aload_n 0, 1) := by decide +kernel
theorem dX9_init_69 : decode cX9_init 69 = .ok (.invokevirtual 36, 3) := by decide +kernel
theorem dX9_init_72 : decode cX9_init 72 = .ok (.aload_n 0, 1) := by decide +kernel
theorem dX9_init_73 : decode cX9_init 73 = .ok (.invokevirtual 39, 3) := by decide +kernel
theorem dX9_init_76 : decode cX9_init 76 = .ok (.aload_n 0, 1) := by decide +kernel
theorem dX9_init_77 : decode cX9_init 77 = .ok (.invokevirtual 42, 3) := by decide +kernel
theorem dX9_init_80 : decode cX9_init 80 = .ok (.return_, 1) := by decide +kernel
theorem fbX9_9 : FPB RX9 9 9 5 (.array .int) := ⟨RX9, TX9, 18, rfl, by decide, rfl, (tb_1 120 rfl rfl), by decide +kernel, fun _ => rfl⟩
theorem fbX9_15 : FPB RX9 15 9 6 (.array .int) := ⟨RX9, TX9, 18, rfl, by decide, rfl, (tb_1 124 rfl rfl), by decide +kernel, fun _ => rfl⟩
theorem fbX9_18 : FPB RX9 18 9 7 (.array .int) := ⟨RX9, TX9, 18, rfl, by decide, rfl, (tb_1 129 rfl rfl), by decide +kernel, fun _ => rfl⟩
theorem fbX9_21 : FPB RX9 21 9 8 (.array .int) := ⟨RX9, TX9, 18, rfl, by decide, rfl, (tb_1 133 rfl rfl), by decide +kernel, fun _ => rfl⟩
theorem fbX9_24 : FPB RX9 24 9 14 (.array .int) := ⟨RX9, TX9, 18, rfl, by decide, rfl, (tb_1 157 rfl rfl), by decide +kernel, fun _ => rfl⟩
theorem fbX9_27 : FPB RX9 27 9 15 (.array .int) := ⟨RX9, TX9, 18, rfl, by decide, rfl, (tb_1 161 rfl rfl), by decide +kernel, fun _ => rfl⟩
theorem fbX9_30 : FPB RX9 30 9 16 (.array .int) := ⟨RX9, TX9, 18, rfl, by decide, rfl, (tb_1 163 rfl rfl), by decide +kernel, fun _ => rfl⟩
theorem fbX9_33 : FPB RX9 33 9 17 (.array .int) := ⟨RX9, TX9, 18, rfl, by decide, rfl, (tb_1 166 rfl rfl), by decide +kernel, fun _ => rfl⟩
theorem dfX9 (i j : Nat) (h : j < 18) : defaultValue (tyX9 j) = dfl 10 i j := match j, h with
  | 0, _ => rfl
  | 1, _ => rfl
  | 2, _ => rfl
  | 3, _ => rfl
  | 4, _ => rfl
  | 5, _ => rfl
  | 6, _ => rfl
  | 7, _ => rfl
  | 8, _ => rfl
  | 9, _ => rfl
  | 10, _ => rfl
  | 11, _ => rfl
  | 12, _ => rfl
  | 13, _ => rfl
  | 14, _ => rfl
  | 15, _ => rfl
  | 16, _ => rfl
  | 17, _ => rfl
  | j + 18, h => absurd h (by omega)
def LnX9 (i : Nat) : List (Nat × Nat) := [(54, i), (55, i), (56, i), (57, i), (58, i), (59, i), (60, i), (61, i)]
theorem cd_X9 {G : GG} {i : Nat} : CD (gRe G ((10, i) :: LnX9 i)) := by
  refine cd_of (fun q hq => ?_)
  rcases List.mem_cons.mp hq with rfl | hq
  · exact Or.inr (fun q' hq' => List.mem_cons_of_mem _ (show q' ∈ frs 10 i from hq'))
  · simp only [LnX9, List.mem_cons, List.not_mem_nil, or_false] at hq
    rcases hq with rfl | rfl | rfl | rfl | rfl | rfl | rfl | rfl <;> exact Or.inl (Nat.le_of_ble_eq_true rfl)
theorem w_X9 {i : Nat} {σ : St} {Q : Res → St → Prop} (h : ∀ τ, FR (inL ((10, i) :: LnX9 i)) σ τ → VA τ i (mV D0) → τ 10 i 4 = 0 → Q (.inl none) τ) : WP kX9_init 68 [vR 10 i] [] σ Q := by
  refine wp_aload_n dX9_init_68 rfl rfl ?_
  refine wp_invV (N := mX9_clear) [] dX9_init_69 (tb_1 62 rfl rfl) mvX9_clear rfl rfl rfl rfl rfl (Nat.le_of_ble_eq_true rfl) (Nat.le_of_ble_eq_true rfl) (by decide) (by decide) (by decide) ?_
  refine c_clear (fun τ f0 h0 g54 g55 g56 g57 => ?_)
  show WP kX9_init 72 [vR 10 i] [] τ Q
  refine wp_aload_n dX9_init_72 rfl rfl ?_
  refine wp_invV (N := mX9_meetAll) [] dX9_init_73 (tb_1 69 rfl rfl) mvX9_meetAll rfl rfl rfl rfl rfl (Nat.le_of_ble_eq_true rfl) (Nat.le_of_ble_eq_true rfl) (by decide) (by decide) (by decide) ?_
  refine c_meetAll (n := 4) h0.1 (by omega) (by omega) (fun υ f1 m56 => ?_)
  show WP kX9_init 76 [vR 10 i] [] υ Q
  refine wp_aload_n dX9_init_76 rfl rfl ?_
  refine wp_invV (N := mX9_settle) [] dX9_init_77 (tb_1 73 rfl rfl) mvX9_settle rfl rfl rfl rfl rfl (Nat.le_of_ble_eq_true rfl) (Nat.le_of_ble_eq_true rfl) (by decide) (by decide) (by decide) ?_
  have hT : VT υ i (mV D0) := by
    refine ⟨(f1 10 i 0 (by omega)).trans h0.1, (f1 10 i 1 (by omega)).trans h0.2.1, (f1 10 i 2 (by omega)).trans h0.2.2.1, (f1 10 i 3 (by omega)).trans h0.2.2.2.1, fun j hj => (f1 54 i j (by omega)).trans (g54 j hj), fun j hj => (f1 55 i j (by omega)).trans (g55 j hj), fun j hj => ?_, fun j hj => (f1 57 i j (by omega)).trans (g57 j hj)⟩
    rw [m56 j hj]
    show _ = (if (0 : Int) = 1 then (0 : Int) else if (j : Int) < 4 then mAll 4 (j : Int) else 0)
    rw [if_neg (show ¬ (0 : Int) = 1 by decide)]
    by_cases hj4 : j < 4
    · rw [if_pos hj4, if_pos (by omega)]; rfl
    · rw [if_neg hj4, if_neg (by omega), g56 j hj]
  refine c_settle (vok_mV dok0) hT (fun ω f2 hA => ?_)
  show WP kX9_init 80 [vR 10 i] [] ω Q
  have m10 : inL ((10, i) :: LnX9 i) 10 i 0 := by simp [inL]
  have mI : ∀ c j, c = 10 ∨ (54 ≤ c ∧ c ≤ 61) → inL ((10, i) :: LnX9 i) c i j := fun c j hc => by
    have : c = 10 ∨ c = 54 ∨ c = 55 ∨ c = 56 ∨ c = 57 ∨ c = 58 ∨ c = 59 ∨ c = 60 ∨ c = 61 := by omega
    rcases this with e | e | e | e | e | e | e | e | e <;> (subst e; simp [inL, LnX9])
  refine wp_ret dX9_init_80 rfl (h ω (((f0.wk (fun c i' j z => ?_)).tr (f1.wk (fun c i' j z => ?_))).tr (f2.wk (fun c i' j z => ?_))) hA ?_)
  · unfold clP at z
    obtain ⟨rfl, z⟩ := z
    exact mI c j (by omega)
  · obtain ⟨e1, rfl⟩ := z
    exact mI c j (by omega)
  · unfold zP at z
    obtain ⟨rfl, z⟩ := z
    exact mI c j (by omega)
  · rw [f2 10 i 4 (by unfold zP; omega), f1 10 i 4 (by omega)]
    exact h0.2.2.2.2
theorem k_X9 {l : Launch} {G : GG} {σ : St} {i sz : Nat} (hR : RO σ) (hz : ZL σ (LnX9 i)) (hg : HG G sz (LnX9 i)) : KM l kX9_init G σ 10 i 9 sz [] ((10, i) :: LnX9 i) 8 1155 (fun τ => VA τ i (mV D0) ∧ τ 10 i 4 = 0) := by
  refine met_B (by decide +kernel) rfl rfl hR (Nat.le_of_ble_eq_true rfl) ?_
  intro p e s mid below meth c Z hB hsz hend H locs ls hD hl
  subst hsz
  have hl : lv_has ls 1 [(0, .ref (G.2.2.1 10 i))] := hl
  refine wb_obj0 hB dX9_init_0 dX9_init_1 (tb_1 61 rfl rfl) (by decide) hl ?_
  refine wb_arr (q := (54, i)) (v := 16) (na := 16) (cl1 := 1) (sl1 := 16) (pc3 := 12) hB dX9_init_4 (fun H locs rest k => lv_bipush hB.1.1 hB.1.2.1 dX9_init_5 (by decide) k) dX9_init_7 dX9_init_9 fbX9_9 (by decide) rfl rfl rfl ac_int rfl rfl rfl rfl rfl (by decide) (by decide) (Nat.le_of_ble_eq_true rfl) (Nat.le_of_ble_eq_true rfl) (Nat.le_of_ble_eq_true rfl) (hz _ (List.mem_of_getElem? (i := 0) rfl)) (hg 0 _ rfl) (fun a => ⟨rfl, rfl⟩) hD hl (fun H locs hD => ?_)
  refine wb_arr (q := (55, i)) (v := 4) (na := 4) (cl1 := 2) (sl1 := 20) (pc3 := 19) hB dX9_init_12 (fun H locs rest k => lv_iconst hB.1.1 hB.1.2.1 dX9_init_13 (by decide) k) dX9_init_14 dX9_init_16 fbX9_15 (by decide) rfl rfl rfl ac_int rfl rfl rfl rfl rfl (by decide) (by decide) (Nat.le_of_ble_eq_true rfl) (Nat.le_of_ble_eq_true rfl) (Nat.le_of_ble_eq_true rfl) (hz _ (List.mem_of_getElem? (i := 1) rfl)) (hg 1 _ rfl) (fun a => ⟨rfl, rfl⟩) hD hl (fun H locs hD => ?_)
  refine wb_arr (q := (56, i)) (v := 10) (na := 10) (cl1 := 3) (sl1 := 30) (pc3 := 27) hB dX9_init_19 (fun H locs rest k => lv_bipush hB.1.1 hB.1.2.1 dX9_init_20 (by decide) k) dX9_init_22 dX9_init_24 fbX9_18 (by decide) rfl rfl rfl ac_int rfl rfl rfl rfl rfl (by decide) (by decide) (Nat.le_of_ble_eq_true rfl) (Nat.le_of_ble_eq_true rfl) (Nat.le_of_ble_eq_true rfl) (hz _ (List.mem_of_getElem? (i := 2) rfl)) (hg 2 _ rfl) (fun a => ⟨rfl, rfl⟩) hD hl (fun H locs hD => ?_)
  refine wb_arr (q := (57, i)) (v := 10) (na := 10) (cl1 := 4) (sl1 := 40) (pc3 := 35) hB dX9_init_27 (fun H locs rest k => lv_bipush hB.1.1 hB.1.2.1 dX9_init_28 (by decide) k) dX9_init_30 dX9_init_32 fbX9_21 (by decide) rfl rfl rfl ac_int rfl rfl rfl rfl rfl (by decide) (by decide) (Nat.le_of_ble_eq_true rfl) (Nat.le_of_ble_eq_true rfl) (Nat.le_of_ble_eq_true rfl) (hz _ (List.mem_of_getElem? (i := 3) rfl)) (hg 3 _ rfl) (fun a => ⟨rfl, rfl⟩) hD hl (fun H locs hD => ?_)
  refine wb_arr (q := (58, i)) (v := 40) (na := 40) (cl1 := 5) (sl1 := 80) (pc3 := 43) hB dX9_init_35 (fun H locs rest k => lv_bipush hB.1.1 hB.1.2.1 dX9_init_36 (by decide) k) dX9_init_38 dX9_init_40 fbX9_24 (by decide) rfl rfl rfl ac_int rfl rfl rfl rfl rfl (by decide) (by decide) (Nat.le_of_ble_eq_true rfl) (Nat.le_of_ble_eq_true rfl) (Nat.le_of_ble_eq_true rfl) (hz _ (List.mem_of_getElem? (i := 4) rfl)) (hg 4 _ rfl) (fun a => ⟨rfl, rfl⟩) hD hl (fun H locs hD => ?_)
  refine wb_arr (q := (59, i)) (v := 40) (na := 40) (cl1 := 6) (sl1 := 120) (pc3 := 51) hB dX9_init_43 (fun H locs rest k => lv_bipush hB.1.1 hB.1.2.1 dX9_init_44 (by decide) k) dX9_init_46 dX9_init_48 fbX9_27 (by decide) rfl rfl rfl ac_int rfl rfl rfl rfl rfl (by decide) (by decide) (Nat.le_of_ble_eq_true rfl) (Nat.le_of_ble_eq_true rfl) (Nat.le_of_ble_eq_true rfl) (hz _ (List.mem_of_getElem? (i := 5) rfl)) (hg 5 _ rfl) (fun a => ⟨rfl, rfl⟩) hD hl (fun H locs hD => ?_)
  refine wb_arr (q := (60, i)) (v := 11) (na := 11) (cl1 := 7) (sl1 := 131) (pc3 := 59) hB dX9_init_51 (fun H locs rest k => lv_bipush hB.1.1 hB.1.2.1 dX9_init_52 (by decide) k) dX9_init_54 dX9_init_56 fbX9_30 (by decide) rfl rfl rfl ac_int rfl rfl rfl rfl rfl (by decide) (by decide) (Nat.le_of_ble_eq_true rfl) (Nat.le_of_ble_eq_true rfl) (Nat.le_of_ble_eq_true rfl) (hz _ (List.mem_of_getElem? (i := 6) rfl)) (hg 6 _ rfl) (fun a => ⟨rfl, rfl⟩) hD hl (fun H locs hD => ?_)
  refine wb_arr (q := (61, i)) (v := 1024) (na := 1024) (cl1 := 8) (sl1 := 1155) (pc3 := 68) hB dX9_init_59 (fun H locs rest k => lv_sipush hB.1.1 hB.1.2.1 dX9_init_60 (by decide) k) dX9_init_63 dX9_init_65 fbX9_33 (by decide) rfl rfl rfl ac_int rfl rfl rfl rfl rfl (by decide) (by decide) (Nat.le_of_ble_eq_true rfl) (Nat.le_of_ble_eq_true rfl) (Nat.le_of_ble_eq_true rfl) (hz _ (List.mem_of_getElem? (i := 7) rfl)) (hg 7 _ rfl) (fun a => ⟨rfl, rfl⟩) hD hl (fun H locs hD => ?_)
  exact wb_wp (Qe := fun τ => FR (inL ((10, i) :: LnX9 i)) σ τ ∧ VA τ i (mV D0) ∧ τ 10 i 4 = 0) (L := LnX9 i) (ds := [17, 16, 15, 14, 8, 7, 6, 5]) 0 hB hD rfl (by decide) (of_decide_eq_true rfl) cd_X9 (by decide) (Nat.le_refl _) (Nat.le_refl _) rfl hl (w_X9 (fun τ h1 h2 h3 => ⟨rfl, h1, h2, h3⟩)) (fun H locs ls pc τ h hW hd => hend H locs ls pc τ h.1 h.2 hW.2.2.2.1 hW.1 hW.2.1 hW.2.2.1 hd)
