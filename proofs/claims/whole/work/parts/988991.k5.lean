/-! ===== constructors: Stop, by Exception and Throwable ===== -/
abbrev kT : MI := (⟨"java/lang/Throwable", "<init>", "(Ljava/lang/String;Ljava/lang/Throwable;ZZ)V"⟩, prog_23_method_5_code, 5, none, 1)
abbrev kE : MI := (⟨"java/lang/Exception", "<init>", "(Ljava/lang/String;Ljava/lang/Throwable;ZZ)V"⟩, prog_16_method_5_code, 5, none, 2)
theorem moT : MO kT 4 := ⟨(tb_6 120 rfl rfl), (tb_1 17 rfl rfl), ⟨by decide, by decide, by decide +kernel⟩, by decide +kernel, by decide⟩
theorem moE : MO kE 4 := ⟨(tb_6 117 rfl rfl), (tb_1 18 rfl rfl), ⟨by decide, by decide, by decide +kernel⟩, by decide +kernel, by decide⟩
theorem dkT_0 : decode prog_23_method_5_code 0 = .ok (.aload_n 0, 1) := by decide +kernel
theorem dkT_1 : decode prog_23_method_5_code 1 = .ok (.invokespecial 1, 3) := by decide +kernel
theorem dkT_4 : decode prog_23_method_5_code 4 = .ok (.aload_n 0, 1) := by decide +kernel
theorem dkT_5 : decode prog_23_method_5_code 5 = .ok (.aload_n 0, 1) := by decide +kernel
theorem dkT_6 : decode prog_23_method_5_code 6 = .ok (.putfield 7, 3) := by decide +kernel
theorem dkT_9 : decode prog_23_method_5_code 9 = .ok (.aload_n 0, 1) := by decide +kernel
theorem dkT_10 : decode prog_23_method_5_code 10 = .ok (.getstatic 13, 3) := by decide +kernel
theorem dkT_13 : decode prog_23_method_5_code 13 = .ok (.putfield 17, 3) := by decide +kernel
theorem dkT_16 : decode prog_23_method_5_code 16 = .ok (.aload_n 0, 1) := by decide +kernel
theorem dkT_17 : decode prog_23_method_5_code 17 = .ok (.getstatic 20, 3) := by decide +kernel
theorem dkT_20 : decode prog_23_method_5_code 20 = .ok (.putfield 24, 3) := by decide +kernel
theorem dkT_23 : decode prog_23_method_5_code 23 = .ok (.iload 4, 2) := by decide +kernel
theorem dkT_25 : decode prog_23_method_5_code 25 = .ok (.ifCond .eq 11, 3) := by decide +kernel
theorem dkT_36 : decode prog_23_method_5_code 36 = .ok (.aload_n 0, 1) := by decide +kernel
theorem dkT_37 : decode prog_23_method_5_code 37 = .ok (.aconst_null, 1) := by decide +kernel
theorem dkT_38 : decode prog_23_method_5_code 38 = .ok (.putfield 17, 3) := by decide +kernel
theorem dkT_41 : decode prog_23_method_5_code 41 = .ok (.aload_n 0, 1) := by decide +kernel
theorem dkT_42 : decode prog_23_method_5_code 42 = .ok (.aload_n 1, 1) := by decide +kernel
theorem dkT_43 : decode prog_23_method_5_code 43 = .ok (.putfield 31, 3) := by decide +kernel
theorem dkT_46 : decode prog_23_method_5_code 46 = .ok (.aload_n 0, 1) := by decide +kernel
theorem dkT_47 : decode prog_23_method_5_code 47 = .ok (.aload_n 2, 1) := by decide +kernel
theorem dkT_48 : decode prog_23_method_5_code 48 = .ok (.putfield 7, 3) := by decide +kernel
theorem dkT_51 : decode prog_23_method_5_code 51 = .ok (.iload_n 3, 1) := by decide +kernel
theorem dkT_52 : decode prog_23_method_5_code 52 = .ok (.ifCond .ne 8, 3) := by decide +kernel
theorem dkT_55 : decode prog_23_method_5_code 55 = .ok (.aload_n 0, 1) := by decide +kernel
theorem dkT_56 : decode prog_23_method_5_code 56 = .ok (.aconst_null, 1) := by decide +kernel
theorem dkT_57 : decode prog_23_method_5_code 57 = .ok (.putfield 24, 3) := by decide +kernel
theorem dkT_60 : decode prog_23_method_5_code 60 = .ok (.return_, 1) := by decide +kernel
theorem dkE_0 : decode prog_16_method_5_code 0 = .ok (.aload_n 0, 1) := by decide +kernel
theorem dkE_1 : decode prog_16_method_5_code 1 = .ok (.aload_n 1, 1) := by decide +kernel
theorem dkE_2 : decode prog_16_method_5_code 2 = .ok (.aload_n 2, 1) := by decide +kernel
theorem dkE_3 : decode prog_16_method_5_code 3 = .ok (.iload_n 3, 1) := by decide +kernel
theorem dkE_4 : decode prog_16_method_5_code 4 = .ok (.iload 4, 2) := by decide +kernel
theorem dkE_6 : decode prog_16_method_5_code 6 = .ok (.invokespecial 16, 3) := by decide +kernel
theorem dkE_9 : decode prog_16_method_5_code 9 = .ok (.return_, 1) := by decide +kernel
abbrev kX12_init : MI := (yX12_init, cX12_init, 1, none, 3)
theorem moX12_init : MO kX12_init 0 := ⟨(tb_6 114 rfl rfl), (tb_1 19 rfl rfl), ⟨by decide, by decide, by decide +kernel⟩, by decide +kernel, by decide⟩
theorem dX12_init_0 : decode cX12_init 0 = .ok (.aload_n 0, 1) := by decide +kernel
theorem dX12_init_1 : decode cX12_init 1 = .ok (.aconst_null, 1) := by decide +kernel
theorem dX12_init_2 : decode cX12_init 2 = .ok (.aconst_null, 1) := by decide +kernel
theorem dX12_init_3 : decode cX12_init 3 = .ok (.iconst 0, 1) := by decide +kernel
theorem dX12_init_4 : decode cX12_init 4 = .ok (.iconst 0, 1) := by decide +kernel
theorem dX12_init_5 : decode cX12_init 5 = .ok (.invokespecial 1, 3) := by decide +kernel
theorem dX12_init_8 : decode cX12_init 8 = .ok (.return_, 1) := by decide +kernel
theorem dfX12 (i j : Nat) (h : j < 6) : defaultValue (tyX12 j) = dfl 13 i j := match j, h with
  | 0, _ => rfl
  | 1, _ => rfl
  | 2, _ => rfl
  | 3, _ => rfl
  | 4, _ => rfl
  | 5, _ => rfl
  | j + 6, h => absurd h (by omega)
section Stop
variable {M N : MI} {G : GG} {A : Nat → Prop} {p : Program} {l : Launch} {e : Env} {R : Room} {s : State} {mid : MethodId} {args : Array Value} {below : List Frame} {meth : Method} {c : Code} {cells slots : Nat} {Z : State → Prop} {σ : St} {H : Heap} {locs : List Loc} {ls : Array Slot} {pc a : Nat} {rest : List Value}
def TD (G : GG) (A : Nat → Prop) (a : Nat) (fs : List Value) (s : State) (H : Heap) (locs : List Loc) : Prop := va_P G.1 classes [(a, .inr (12, fs))] H ∧ va_D A [(a, .inr (12, fs))] ∧ va_S A s.heap H locs
theorem vt_put {fs : List Value} {k idx : Nat} {v : Value} {ty : FieldType} (hB : BX M G A p R s mid args meth c) (hk : k < 6) (hfl : Cond.fieldLink M.1.cls idx (TX12 k).1 (TX12 k).2.1 (TX12 k).2.2.1 ∈ TB) (hfin : (TX12 k).2.2.2 = false) (hd : parseFieldDescriptor (TX12 k).2.2.1 = some ty) (hn : narrow ty v = v) (hfit : fits ty v = true) (hlen : fs.length = 6) (d : decode M.2.1 pc = .ok (.putfield idx, 3)) (h : TD G A a fs s H locs) (kk : ∀ H locs, TD G A a (fs.set k v) s H locs → W p l e R s mid args below meth c H locs cells slots Z (F0 mid (pc + 3) ls rest)) : W p l e R s mid args below meth c H locs cells slots Z (F0 mid pc ls (v :: .ref a :: rest)) := by
  have hC := hB.1
  exact va_put hC.1 hC.2.1 hC.2.2.2.2.1 ci_12 tyX12 tyX12_ok nmX12 hC.2.2.2.1 hC.2.2.2.2.2.2.2.1 h.1 h.2.1 h.2.2 0 rfl rfl k hk (hC.2.2.2.2.1 _ hfl) (fun _ h => h) hfin hd hn hfit (by omega) d (fun H1 locs1 g1 g2 g3 => kk H1 locs1 ⟨g1, g2, g3⟩)
theorem ce_13 (hS : ∀ k, G.2.2.2.2.1 k = dS k) : ce G σ (13, 0) = .inr (12, [.null, .null, .null, .null, .null, .int 0]) := by
  rw [ce_obj (ci := 12) rfl]
  show Sum.inr (12, List.map (fv G σ 13 0) [0, 1, 2, 3, 4, 5]) = _
  simp [fv, hS, dS]
theorem zq_v {C n d : String} {U : State} (h : va_Zq C n d A U H) : ∃ v : Value, (∀ t, narrow (.array t) v = v ∧ fits (.array t) v = true) ∧ (∀ t, narrow (.object t) v = v ∧ fits (.object t) v = true) ∧ va_Z C n d v A U H := by
  rcases h with h | ⟨t, h⟩
  · exact ⟨_, fun _ => ⟨rfl, rfl⟩, fun _ => ⟨rfl, rfl⟩, h⟩
  · exact ⟨_, fun _ => ⟨rfl, rfl⟩, fun _ => ⟨rfl, rfl⟩, h⟩
theorem k_T {sz : Nat} (hR : RO σ) (hS : ∀ k, G.2.2.2.2.1 k = dS k) : KM l kT G σ 13 0 12 sz [.null, .null, .int 0, .int 0] [(13, 0)] 0 0 (fun τ => τ = σ) := by
  refine met_B (by decide +kernel) rfl rfl hR (Nat.le_of_ble_eq_true rfl) ?_
  intro p e s mid below meth c Z hB hsz hend H locs ls hD hl
  subst hsz
  have hl : lv_has ls 5 [(0, .ref (G.2.2.1 13 0)), (1, .null), (2, .null), (3, .int 0), (4, .int 0)] := hl
  have hC := hB.1
  have hx := hC.1
  have hb : c.code = prog_23_method_5_code := hC.2.1
  refine wb_obj0 (M := kT) hB dkT_0 dkT_1 (tb_6 98 rfl rfl) (by decide) hl ?_
  have hT : TD G (AB G 13 0 s.heap.size) (G.2.2.1 13 0) [.null, .null, .null, .null, .null, .int 0] s H locs := ⟨hD.1, hD.2.1, hD.2.2.1⟩
  obtain ⟨w1, a1, -, z1⟩ := zq_v hB.2.2.2.2.2.1
  obtain ⟨w2, -, a2, z2⟩ := zq_v hB.2.2.2.2.2.2
  refine lv_aload_n hx hb dkT_4 rfl (lv_at hl 0 rfl) (lv_aload_n hx hb dkT_5 rfl (lv_at hl 0 rfl) ?_)
  refine vt_put (k := 0) (ty := .object "java/lang/Throwable") hB (by decide) (tb_6 123 rfl rfl) rfl (by decide +kernel) rfl rfl rfl dkT_6 hT (fun H locs hT => ?_)
  refine lv_aload_n hx hb dkT_9 rfl (lv_at hl 0 rfl) (va_gets hx hb z1 hT.2.2 hC.2.2.2.1 (hC.2.2.2.2.1 _ (tb_6 99 rfl rfl)) (fun _ h => h) dkT_10 ?_)
  refine vt_put (k := 1) (ty := .array (.object "java/lang/StackTraceElement")) hB (by decide) (tb_6 124 rfl rfl) rfl (by decide +kernel) (a1 _).1 (a1 _).2 rfl dkT_13 hT (fun H locs hT => ?_)
  refine lv_aload_n hx hb dkT_16 rfl (lv_at hl 0 rfl) (va_gets hx hb z2 hT.2.2 hC.2.2.2.1 (hC.2.2.2.2.1 _ (tb_6 101 rfl rfl)) (fun _ h => h) dkT_17 ?_)
  refine vt_put (k := 2) (ty := .object "java/util/List") hB (by decide) (tb_6 125 rfl rfl) rfl (by decide +kernel) (a2 _).1 (a2 _).2 rfl dkT_20 hT (fun H locs hT => ?_)
  refine lv_iload hx hb dkT_23 (lv_at hl 4 rfl) ?_
  refine lv_if_eq (tgt := 36) hx hb dkT_25 (by decide) (fun _ => ?_) (fun h => absurd rfl h)
  refine lv_aload_n hx hb dkT_36 rfl (lv_at hl 0 rfl) (lv_null hx hb dkT_37 ?_)
  refine vt_put (k := 1) (ty := .array (.object "java/lang/StackTraceElement")) hB (by decide) (tb_6 124 rfl rfl) rfl (by decide +kernel) rfl rfl rfl dkT_38 hT (fun H locs hT => ?_)
  refine lv_aload_n hx hb dkT_41 rfl (lv_at hl 0 rfl) (lv_aload_nN hx hb dkT_42 rfl (lv_at hl 1 rfl) ?_)
  refine vt_put (k := 3) (ty := .object "java/lang/String") hB (by decide) (tb_6 122 rfl rfl) rfl (by decide +kernel) rfl rfl rfl dkT_43 hT (fun H locs hT => ?_)
  refine lv_aload_n hx hb dkT_46 rfl (lv_at hl 0 rfl) (lv_aload_nN hx hb dkT_47 rfl (lv_at hl 2 rfl) ?_)
  refine vt_put (k := 0) (ty := .object "java/lang/Throwable") hB (by decide) (tb_6 123 rfl rfl) rfl (by decide +kernel) rfl rfl rfl dkT_48 hT (fun H locs hT => ?_)
  refine lv_iload_n hx hb dkT_51 rfl (lv_at hl 3 rfl) ?_
  refine lv_if_ne (tgt := 60) hx hb dkT_52 (by decide) (fun h => absurd rfl h) (fun _ => ?_)
  refine lv_aload_n hx hb dkT_55 rfl (lv_at hl 0 rfl) (lv_null hx hb dkT_56 ?_)
  refine vt_put (k := 2) (ty := .object "java/util/List") hB (by decide) (tb_6 125 rfl rfl) rfl (by decide +kernel) rfl rfl rfl dkT_57 hT (fun H locs hT => ?_)
  have e9 : cw G σ [(13, 0)] = [(G.2.2.1 13 0, .inr (12, [.null, .null, .null, .null, .null, .int 0]))] := by
    show [(G.2.2.1 13 0, ce G σ (13, 0))] = _
    rw [ce_13 hS]
  refine hend H locs ls _ σ FR.rf rfl hR ?_ ?_ hT.2.2 dkT_60
  · rw [e9]; exact hT.1
  · rw [e9]; exact hT.2.1
theorem vt_super {idx nn : Nat} {vs : List Value} (hB : BX M G (AB G 13 0 s.heap.size) p R s mid args meth c) (d : decode M.2.1 pc = .ok (.invokespecial idx, 3)) (hm : Cond.methodLink M.1.cls idx N.1 ∈ TB) (hMO : MO N nn) (hin : Cond.instanceMethod N.1 ∈ TB) (hnm : N.1.name = "<init>") (hrt : N.2.2.2.1 = none) (hrk : N.2.2.2.2 < M.2.2.2.2) (hM : KM l N G σ 13 0 12 s.heap.size vs [(13, 0)] 0 0 (fun τ => τ = σ)) (hvl : vs.length = nn) (hsz : ls.size = M.2.2.1) (hD : BD G (AB G 13 0 s.heap.size) σ [] 13 0 12 [] s H locs 0)
    (kk : ∀ H locs, va_P G.1 classes (cw G σ [(13, 0)]) H → va_D (AB G 13 0 s.heap.size) (cw G σ [(13, 0)]) → va_S (AB G 13 0 s.heap.size) s.heap H locs → W p l e R s mid args below meth c H locs 0 0 Z (F0 mid (pc + 3) ls [])) : W p l e R s mid args below meth c H locs 0 0 Z (F0 mid pc ls (vs.reverse ++ [.ref (G.2.2.1 13 0)])) := by
  have hC := hB.1
  have hts := hC.2.2.2.2.1
  have hroom : (rmB N 0 0).frames + 1 ≤ R.frames ∧ 8 + (N.2.2.1 + 11) + (rmB N 0 0).locals ≤ R.locals := by
    have h9 := hC.2.2.2.2.2.2.2.2.1
    have h10 := hC.2.2.2.2.2.2.2.2.2.1
    have h11 := hMO.2.2.2.2
    show N.2.2.2.2 + 1 ≤ R.frames ∧ 8 + (N.2.2.1 + 11) + 39 * N.2.2.2.2 ≤ R.locals
    omega
  intro T hT X
  have hHs := bd_size hD hT X
  obtain ⟨hP, hDD, hS, hRo, -⟩ := hD
  have hpre : ∀ U : State, U.heap = H → s.WarmedH U.vm → PcB G (AB G 13 0 s.heap.size) σ 13 0 12 s.heap.size vs (Value.ref (G.2.2.1 13 0) :: vs).toArray U := fun U hU hWm =>
    ⟨rfl, by rw [hU, hHs]; rfl, by rw [hU]; exact hP, va_K.moved hWm.alike hC.2.2.2.2.2.2.2.1, nw_warm hWm hC.2.2.2.2.2.2.2.2.2.2.1, nwC_warm hWm hB.2.1, sx_at hS hU hWm hC.2.2.2.2.2.2.2.2.2.2.2, tz_at hS hU hWm hB.2.2.2.2.2 (fun _ h => h)⟩
  have S : CallFix p mid c M.2.1 M.2.2.1 s args TB M.1.cls := ⟨hC.1, hC.2.1, hC.2.2.1, hC.2.2.2.1, hts⟩
  unfold KM at hM
  obtain ⟨v, st₀, t, T', L', h0, X', hL, e1, e2, ⟨⟨τ, hfr, hq, hv, hR1, hP1, hD1⟩, hz, hk⟩, go⟩ := va_runI (rest := []) (As := vs) (g := F0 mid pc ls (vs.reverse ++ [.ref (G.2.2.1 13 0)])) S hM ⟨callB_of nn hts (good_ws hMO) (by rw [← hrt]) rfl rfl (hts _ hMO.2.1) (hts _ hm) hMO.2.2.1 hroom, hnm, hts _ hin⟩ ⟨pcB_blind, hpre⟩ rfl hvl hsz rfl (lv_room (Nat.le_of_ble_eq_true rfl)) d ⟨Nat.zero_le _, Nat.zero_le _⟩ T hT X
  cases hv
  rw [h0] at hz hk
  rw [hq] at hP1 hD1
  have hS1 : va_S (AB G 13 0 s.heap.size) s.heap T'.heap (locs ++ L') := by
    refine ⟨Nat.le_trans hS.1 (by rw [e1]; exact hz), fun q h1 h2 => ?_, fun q hq => ?_⟩
    · rw [e1, hk q (Nat.lt_of_lt_of_le h1 hS.1) h2]
      exact hS.2.1 q h1 h2
    · rcases List.mem_append.mp hq with h | h
      · exact hS.2.2 q h
      · exact hL q h
  obtain ⟨t2, b1, b2⟩ := kk T'.heap (locs ++ L') (by rw [e1]; exact hP1) hD1 hS1 T' rfl X'
  exact ⟨t2, go t2 b1, b2⟩
theorem k_E {sz : Nat} (hR : RO σ) (hS : ∀ k, G.2.2.2.2.1 k = dS k) : KM l kE G σ 13 0 12 sz [.null, .null, .int 0, .int 0] [(13, 0)] 0 0 (fun τ => τ = σ) := by
  refine met_B (by decide +kernel) rfl rfl hR (Nat.le_of_ble_eq_true rfl) ?_
  intro p e s mid below meth c Z hB hsz hend H locs ls hD hl
  subst hsz
  have hl : lv_has ls 5 [(0, .ref (G.2.2.1 13 0)), (1, .null), (2, .null), (3, .int 0), (4, .int 0)] := hl
  have hx := hB.1.1
  have hb : c.code = prog_16_method_5_code := hB.1.2.1
  refine lv_aload_n hx hb dkE_0 rfl (lv_at hl 0 rfl) (lv_aload_nN hx hb dkE_1 rfl (lv_at hl 1 rfl) (lv_aload_nN hx hb dkE_2 rfl (lv_at hl 2 rfl) ?_))
  refine lv_iload_n hx hb dkE_3 rfl (lv_at hl 3 rfl) (lv_iload hx hb dkE_4 (lv_at hl 4 rfl) ?_)
  exact vt_super (M := kE) (N := kT) (vs := [.null, .null, .int 0, .int 0]) hB dkE_6 (tb_6 118 rfl rfl) moT (tb_6 119 rfl rfl) rfl rfl (by decide) (k_T hR hS) rfl hl.1 hD (fun H locs g1 g2 g3 => hend H locs ls _ σ FR.rf rfl hR g1 g2 g3 dkE_9)
theorem k_X12 {sz : Nat} (hR : RO σ) (hS : ∀ k, G.2.2.2.2.1 k = dS k) : KM l kX12_init G σ 13 0 12 sz [] [(13, 0)] 0 0 (fun τ => τ = σ) := by
  refine met_B (by decide +kernel) rfl rfl hR (Nat.le_of_ble_eq_true rfl) ?_
  intro p e s mid below meth c Z hB hsz hend H locs ls hD hl
  subst hsz
  have hl : lv_has ls 1 [(0, .ref (G.2.2.1 13 0))] := hl
  have hx := hB.1.1
  have hb : c.code = cX12_init := hB.1.2.1
  refine lv_aload_n hx hb dX12_init_0 rfl (lv_at hl 0 rfl) (lv_null hx hb dX12_init_1 (lv_null hx hb dX12_init_2 ?_))
  refine lv_iconst (v := 0) hx hb dX12_init_3 (by decide) (lv_iconst (v := 0) hx hb dX12_init_4 (by decide) ?_)
  exact vt_super (M := kX12_init) (N := kE) (vs := [.null, .null, .int 0, .int 0]) hB dX12_init_5 (tb_6 115 rfl rfl) moE (tb_6 116 rfl rfl) rfl rfl (by decide) (k_E hR hS) rfl hl.1 hD (fun H locs g1 g2 g3 => hend H locs ls _ σ FR.rf rfl hR g1 g2 g3 dX12_init_8)
end Stop
