/-! ===== the law: a walk in one context ===== -/
def WL (M : MI) (G : GG) (A : Nat → Prop) (p : Program) (l : Launch) (e : Env) (R : Room) (s : State) (mid : MethodId) (args : Array Value) (below : List Frame) (meth : Method) (c : Code) (cells slots : Nat) (Z : State → Prop) (pc : Nat) (als ast : List AV) (σ : St) : Prop := ∀ (H : Heap) (locs : List Loc) (ls : Array Slot) (st : List Value), WD G A σ s H locs → rl G M.2.2.1 ls als → rs G st ast → W p l e R s mid args below meth c H locs cells slots Z (F0 mid pc ls st)
def SCX (G : GG) (A : Nat → Prop) (s : State) (L : Nat) (xs : Nat → Int32) : Prop := va_X (G.2.2.1 1000 0) L xs s s.heap ∧ G.2.2.1 1000 0 < s.heap.size ∧ ¬ A (G.2.2.1 1000 0)
section Wl
variable {M N : MI} {G : GG} {A : Nat → Prop} {p : Program} {l : Launch} {e : Env} {R : Room} {s : State} {mid : MethodId} {args : Array Value} {below : List Frame} {meth : Method} {c : Code} {cells slots : Nat} {Z : State → Prop} {pc : Nat} {als ast stk als1 : List AV} {σ : St}
theorem wl_iadd (hC : CX M G A p R s mid args meth c) {x y : Int} (hd : decode M.2.1 pc = .ok (.iadd, 1)) (k : WL M G A p l e R s mid args below meth c cells slots Z (pc + 1) als (vI (x + y) :: ast) σ) (h1 : -2147483648 ≤ x + y := by omega) (h2 : x + y < 2147483648 := by omega) : WL M G A p l e R s mid args below meth c cells slots Z pc als (vI y :: vI x :: ast) σ := by
  intro H locs ls st hW hl hs
  obtain ⟨b, st1, rfl, rfl, hs1⟩ := rs_I hs
  obtain ⟨a, st2, rfl, rfl, hs2⟩ := rs_I hs1
  refine lv_iadd hC.1 hC.2.1 hd ?_
  exact k H locs ls _ hW hl ⟨⟨_, rfl, by rw [Int32.toInt_add, bm32 h1 h2]⟩, hs2⟩
theorem wl_isub (hC : CX M G A p R s mid args meth c) {x y : Int} (hd : decode M.2.1 pc = .ok (.isub, 1)) (k : WL M G A p l e R s mid args below meth c cells slots Z (pc + 1) als (vI (x - y) :: ast) σ) (h1 : -2147483648 ≤ x - y := by omega) (h2 : x - y < 2147483648 := by omega) : WL M G A p l e R s mid args below meth c cells slots Z pc als (vI y :: vI x :: ast) σ := by
  intro H locs ls st hW hl hs
  obtain ⟨b, st1, rfl, rfl, hs1⟩ := rs_I hs
  obtain ⟨a, st2, rfl, rfl, hs2⟩ := rs_I hs1
  refine lv_isub hC.1 hC.2.1 hd ?_
  exact k H locs ls _ hW hl ⟨⟨_, rfl, by rw [Int32.toInt_sub, bm32 h1 h2]⟩, hs2⟩
theorem wl_iand (hC : CX M G A p R s mid args meth c) {x y : Int} (hd : decode M.2.1 pc = .ok (.iand, 1)) (k : WL M G A p l e R s mid args below meth c cells slots Z (pc + 1) als (vI (band x y) :: ast) σ) : WL M G A p l e R s mid args below meth c cells slots Z pc als (vI y :: vI x :: ast) σ := by
  intro H locs ls st hW hl hs
  obtain ⟨b, st1, rfl, rfl, hs1⟩ := rs_I hs
  obtain ⟨a, st2, rfl, rfl, hs2⟩ := rs_I hs1
  refine lv_iand hC.1 hC.2.1 hd ?_
  exact k H locs ls _ hW hl ⟨⟨_, rfl, by unfold band; rw [Int32.ofInt_toInt, Int32.ofInt_toInt]⟩, hs2⟩
theorem wl_iconst (hC : CX M G A p R s mid args meth c) {n : Int} (hd : decode M.2.1 pc = .ok (.iconst n, 1)) (hn : (Int32.ofInt n).toInt = n) (k : WL M G A p l e R s mid args below meth c cells slots Z (pc + 1) als (vI n :: ast) σ) : WL M G A p l e R s mid args below meth c cells slots Z pc als ast σ := by
  intro H locs ls st hW hl hs
  refine lv_iconst hC.1 hC.2.1 hd rfl ?_
  exact k H locs ls _ hW hl ⟨⟨_, rfl, hn⟩, hs⟩
theorem wl_bipush (hC : CX M G A p R s mid args meth c) {n : Int} (hd : decode M.2.1 pc = .ok (.bipush n, 2)) (hn : (Int8.ofInt n).toInt32.toInt = n) (k : WL M G A p l e R s mid args below meth c cells slots Z (pc + 2) als (vI n :: ast) σ) : WL M G A p l e R s mid args below meth c cells slots Z pc als ast σ := by
  intro H locs ls st hW hl hs
  refine lv_bipush hC.1 hC.2.1 hd rfl ?_
  exact k H locs ls _ hW hl ⟨⟨_, rfl, hn⟩, hs⟩
theorem wl_iload_n (hC : CX M G A p R s mid args meth c) {x : Int} {i : Nat} {j : Fin 4} (hd : decode M.2.1 pc = .ok (.iload_n j, 1)) (hi : (j : Nat) = i) (ha : als[i]? = some (vI x)) (k : WL M G A p l e R s mid args below meth c cells slots Z (pc + 1) als (vI x :: ast) σ) : WL M G A p l e R s mid args below meth c cells slots Z pc als ast σ := by
  intro H locs ls st hW hl hs
  obtain ⟨v, h1, y, rfl, h2⟩ := rl_get hl ha (fun q => by cases q)
  refine lv_iload_n hC.1 hC.2.1 hd hi h1 ?_
  exact k H locs ls _ hW hl ⟨⟨_, rfl, h2⟩, hs⟩
theorem wl_aload_n (hC : CX M G A p R s mid args meth c) {c0 i0 : Nat} {i : Nat} {j : Fin 4} (hd : decode M.2.1 pc = .ok (.aload_n j, 1)) (hi : (j : Nat) = i) (ha : als[i]? = some (vR c0 i0)) (k : WL M G A p l e R s mid args below meth c cells slots Z (pc + 1) als (vR c0 i0 :: ast) σ) (h0 : c0 ≠ 0 := by decide) : WL M G A p l e R s mid args below meth c cells slots Z pc als ast σ := by
  intro H locs ls st hW hl hs
  obtain ⟨v, h1, rfl, h2⟩ := rl_get hl ha (fun q => by cases q; exact h0 rfl)
  refine lv_aload_n hC.1 hC.2.1 hd hi h1 ?_
  exact k H locs ls _ hW hl ⟨⟨rfl, h2⟩, hs⟩
theorem wl_iinc (hC : CX M G A p R s mid args meth c) {x n : Int} {i : Nat} {als' : List AV} (hd : decode M.2.1 pc = .ok (.iinc i n, 3)) (ha : als[i]? = some (vI x)) (hn : i < M.2.2.1) (ho : okst als i = true) (hs' : als.set i (vI (x + n)) = als') (k : WL M G A p l e R s mid args below meth c cells slots Z (pc + 3) als' ast σ) (h1 : -2147483648 ≤ x + n := by omega) (h2 : x + n < 2147483648 := by omega) (hn2 : (Int32.ofInt n).toInt = n := by decide) : WL M G A p l e R s mid args below meth c cells slots Z pc als ast σ := by
  intro H locs ls st hW hl hs
  obtain ⟨lv, g1, g2⟩ := hl
  obtain ⟨v, g3, y, rfl, g4⟩ := g2 i _ ha (fun q => by cases q)
  obtain ⟨q, hq⟩ := List.getElem?_of_mem g3
  refine lv_iinc hC.1 hC.2.1 hd g1 (k := q) (by rw [hq]) rfl hn rfl (fun ls1 hl1 => ?_)
  subst hs'
  exact k H locs ls1 _ hW (rl_set g2 ⟨_, rfl, by rw [Int32.toInt_add, g4, hn2, bm32 h1 h2]⟩ ho rfl hl1) hs
theorem wl_icmp_eq (hC : CX M G A p R s mid args meth c) {x y : Int} {off : Int} {tgt : Nat} (hd : decode M.2.1 pc = .ok (.if_icmp .eq off, 3)) (ht : (pc : Int) + off = (tgt : Int)) (kt : x = y → WL M G A p l e R s mid args below meth c cells slots Z tgt als ast σ) (kf : x ≠ y → WL M G A p l e R s mid args below meth c cells slots Z (pc + 3) als ast σ) : WL M G A p l e R s mid args below meth c cells slots Z pc als (vI y :: vI x :: ast) σ := by
  intro H locs ls st hW hl hs
  obtain ⟨b, st1, rfl, rfl, hs1⟩ := rs_I hs
  obtain ⟨a, st2, rfl, rfl, hs2⟩ := rs_I hs1
  refine lv_icmp_eq hC.1 hC.2.1 hd ht (fun h => ?_) (fun h => ?_)
  · simp only [i32_lt, i32_le, i32_eq, ge_iff_le, gt_iff_lt, ne_eq] at h
    exact kt (by omega) H locs ls _ hW hl hs2
  · simp only [i32_lt, i32_le, i32_eq, ge_iff_le, gt_iff_lt, ne_eq] at h
    exact kf (by omega) H locs ls _ hW hl hs2
theorem wl_icmp_gt (hC : CX M G A p R s mid args meth c) {x y : Int} {off : Int} {tgt : Nat} (hd : decode M.2.1 pc = .ok (.if_icmp .gt off, 3)) (ht : (pc : Int) + off = (tgt : Int)) (kt : y < x → WL M G A p l e R s mid args below meth c cells slots Z tgt als ast σ) (kf : x ≤ y → WL M G A p l e R s mid args below meth c cells slots Z (pc + 3) als ast σ) : WL M G A p l e R s mid args below meth c cells slots Z pc als (vI y :: vI x :: ast) σ := by
  intro H locs ls st hW hl hs
  obtain ⟨b, st1, rfl, rfl, hs1⟩ := rs_I hs
  obtain ⟨a, st2, rfl, rfl, hs2⟩ := rs_I hs1
  refine lv_icmp_gt hC.1 hC.2.1 hd ht (fun h => ?_) (fun h => ?_)
  · simp only [i32_lt, i32_le, i32_eq, ge_iff_le, gt_iff_lt, ne_eq] at h
    exact kt (by omega) H locs ls _ hW hl hs2
  · simp only [i32_lt, i32_le, i32_eq, ge_iff_le, gt_iff_lt, ne_eq] at h
    exact kf (by omega) H locs ls _ hW hl hs2
theorem wl_goto (hC : CX M G A p R s mid args meth c) {off : Int} {tgt : Nat} (hd : decode M.2.1 pc = .ok (.goto off, 3)) (ht : (pc : Int) + off = (tgt : Int)) (k : WL M G A p l e R s mid args below meth c cells slots Z tgt als ast σ) : WL M G A p l e R s mid args below meth c cells slots Z pc als ast σ := by
  intro H locs ls st hW hl hs
  exact lv_goto hC.1 hC.2.1 hd ht (k H locs ls _ hW hl hs)
theorem wl_tsIn (hC : CX M G A p R s mid args meth c) {dflt lo hi off : Int} {offs : Array Int} {len tgt : Nat} {x : Int} (hd : decode M.2.1 pc = .ok (.tableswitch dflt lo hi offs, len)) (h1 : lo ≤ x) (h2 : x ≤ hi) (ho : offs[(x - lo).toNat]? = some off) (ht : (pc : Int) + off = (tgt : Int)) (k : WL M G A p l e R s mid args below meth c cells slots Z tgt als ast σ) : WL M G A p l e R s mid args below meth c cells slots Z pc als (vI x :: ast) σ := by
  intro H locs ls st hW hl hs
  obtain ⟨a, st1, rfl, rfl, hs1⟩ := rs_I hs
  exact lv_tableIn hC.1 hC.2.1 hd (by omega) (by omega) ho ht (k H locs ls _ hW hl hs1)
theorem wl_tsOut (hC : CX M G A p R s mid args meth c) {dflt lo hi : Int} {offs : Array Int} {len tgt : Nat} {x : Int} (hd : decode M.2.1 pc = .ok (.tableswitch dflt lo hi offs, len)) (h : x < lo ∨ hi < x) (ht : (pc : Int) + dflt = (tgt : Int)) (k : WL M G A p l e R s mid args below meth c cells slots Z tgt als ast σ) : WL M G A p l e R s mid args below meth c cells slots Z pc als (vI x :: ast) σ := by
  intro H locs ls st hW hl hs
  obtain ⟨a, st1, rfl, rfl, hs1⟩ := rs_I hs
  exact lv_tableOut hC.1 hC.2.1 hd h ht (k H locs ls _ hW hl hs1)
theorem wl_sld {L : Nat} {xs : Nat → Int32} {x : Int} (hC : CX M G A p R s mid args meth c) (hY : SCX G A s L xs) (hd : decode M.2.1 pc = .ok (.iaload, 1)) (h2 : 0 ≤ x) (h3 : x < (L : Int)) (k : WL M G A p l e R s mid args below meth c cells slots Z (pc + 1) als (vI (xs x.toNat).toInt :: ast) σ) : WL M G A p l e R s mid args below meth c cells slots Z pc als (vI x :: vR 1000 0 :: ast) σ := by
  intro H locs ls st hW hl hs
  obtain ⟨y, st0, rfl, rfl, hs0⟩ := rs_I hs
  obtain ⟨st1, rfl, hm, hs1⟩ := rs_R hs0
  refine va_sld hC.1 hC.2.1 hY.1 hY.2.1 hY.2.2 hW.2.2.1 (vp_in_of' h2 h3) hd ?_
  exact k H locs ls _ hW hl ⟨⟨_, rfl, by rw [clamp_e]⟩, hs1⟩
theorem wl_slen {L : Nat} {xs : Nat → Int32} (hL : L ≤ 3072) (hC : CX M G A p R s mid args meth c) (hY : SCX G A s L xs) (hd : decode M.2.1 pc = .ok (.arraylength, 1)) (k : WL M G A p l e R s mid args below meth c cells slots Z (pc + 1) als (vI (L : Int) :: ast) σ) : WL M G A p l e R s mid args below meth c cells slots Z pc als (vR 1000 0 :: ast) σ := by
  intro H locs ls st hW hl hs
  obtain ⟨st1, rfl, hm, hs1⟩ := rs_R hs
  refine va_slen hC.1 hC.2.1 hY.1 hY.2.1 hY.2.2 hW.2.2.1 hd ?_
  exact k H locs ls _ hW hl ⟨⟨_, rfl, nI_toInt (by omega)⟩, hs1⟩
theorem en_no : EN M G A p l e R s mid args below meth c cells slots Z (fun _ _ => False) := ⟨fun _ _ _ _ _ _ _ _ h _ => h.elim, fun _ _ _ _ _ _ _ h _ => h.elim, fun _ _ _ _ _ _ _ _ _ h _ => h.elim, fun _ _ _ _ _ _ _ _ _ _ _ _ h _ => h.elim⟩
theorem wl_invG {QN : Int → St → Prop} {idx n c0 i0 ci : Nat} {hh : List (Nat × Nat × Nat × Nat)} (hC : CX M G A p R s mid args meth c) (hX : SQ M G A s mid ∧ cells ≤ R.cells ∧ slots ≤ R.slots) (as : List AV) (hd : decode M.2.1 pc = .ok (.invokevirtual idx, 3)) (hm : Cond.methodLink M.1.cls idx N.1 ∈ TB) (hNW : NW N hh s args) (hNi : Cond.initialized N.1.cls ∈ TB) (hNp : N.1.cls ≠ "java/lang/invoke/MethodHandle" ∧ N.1.cls ≠ "java/lang/invoke/VarHandle" ∧ (parseMethodDescriptor N.1.desc).map (fun d => d.parameters.length) = some n) (hNq : plainName N.1.cls = true) (hNl : N.2.2.1 ≤ 20) (hNm : Cond.instanceMethod N.1 ∈ TB) (hNs : Cond.selects N.1.cls N.1 N.1 ∈ TB) (ho : oc c0 = some ci) (hcl : (classes[ci]?).map (fun q => q.1) = some N.1.cls) (hst : stk = as.reverse ++ vR c0 i0 :: ast) (hn : as.length = n) (hen : ent (vR c0 i0 :: as) N.2.2.1 = als1) (hle : (entL (vR c0 i0 :: as)).length ≤ N.2.2.1) (hca : (ast.map cat).sum ≤ 8) (hrk : N.2.2.2.2 < M.2.2.2.2) (hrm : M.2.2.2.2 ≤ 12) (h1 : c0 < 1000)
    (k : WP N 0 als1 [] σ (fun r τ => ∃ x, r = .inl (some (vI x)) ∧ QN x τ)) (kk : ∀ x τ, QN x τ → WL M G A p l e R s mid args below meth c cells slots Z (pc + 3) als (vI x :: ast) τ) : WL M G A p l e R s mid args below meth c cells slots Z pc als stk σ := by
  intro H locs ls st hW hl hs
  subst hst
  subst hen
  intro T hT X
  obtain ⟨r, σ', T', L, rest, ⟨x, rfl, hq⟩, hrest, hW', X', hgo⟩ := wp_invG (Q := fun _ _ => False) as hd hm hNi hNp hNq hNl hNm hNs ho hcl hn hle hca hrk hrm h1 k hC hX (en_no (Z := Z)) hNW hW hl hs hT X
  obtain ⟨u, hrv, hgo⟩ := hgo
  obtain ⟨t2, a2, b2⟩ := kk x σ' hq T'.heap (locs ++ L) ls (u :: rest) hW' hl ⟨hrv, hrest⟩ T' rfl X'
  exact ⟨t2, hgo t2 a2, b2⟩
theorem wl_inv {QN : Int → St → Prop} {idx n c0 i0 ci : Nat} (hC : CX M G A p R s mid args meth c) (hX : SQ M G A s mid ∧ cells ≤ R.cells ∧ slots ≤ R.slots) (as : List AV) (hd : decode M.2.1 pc = .ok (.invokevirtual idx, 3)) (hm : Cond.methodLink M.1.cls idx N.1 ∈ TB) (hN : MV N n) (ho : oc c0 = some ci) (hcl : (classes[ci]?).map (fun q => q.1) = some N.1.cls) (hst : stk = as.reverse ++ vR c0 i0 :: ast) (hn : as.length = n) (hen : ent (vR c0 i0 :: as) N.2.2.1 = als1) (hle : (entL (vR c0 i0 :: as)).length ≤ N.2.2.1) (hca : (ast.map cat).sum ≤ 8) (hrk : N.2.2.2.2 < M.2.2.2.2) (hrm : M.2.2.2.2 ≤ 12) (h1 : c0 < 1000)
    (k : WP N 0 als1 [] σ (fun r τ => ∃ x, r = .inl (some (vI x)) ∧ QN x τ)) (kk : ∀ x τ, QN x τ → WL M G A p l e R s mid args below meth c cells slots Z (pc + 3) als (vI x :: ast) τ) : WL M G A p l e R s mid args below meth c cells slots Z pc als stk σ :=
  wl_invG hC hX as hd hm (NW.c hC.2.2.2.2.1 hN.1.1) hN.1.2.1 hN.1.2.2.1 hN.1.2.2.2.1 hN.1.2.2.2.2 hN.2.1 hN.2.2 ho hcl hst hn hen hle hca hrk hrm h1 k kk
end Wl
abbrev mL_law : MI := (yL_law, cL_law, 4, some .boolean, 12)
