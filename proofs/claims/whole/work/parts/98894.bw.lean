/-! ===== building: an object under construction, and the finished cells behind it ===== -/
def nwC : List Cond := [.methodLinkNest "CustomValley" 9 yX7_init "CustomValley", .methodLinkNest "CustomValley" 27 yX1_init "CustomValley", .methodLinkNest "CustomValley$Land" 20 yX3_init "CustomValley", .methodLinkNest "CustomValley$Land" 27 yX4_init "CustomValley", .methodLinkNest "CustomValley" 37 yX5_init "CustomValley", .methodLinkNest "CustomValley" 47 yX8_init "CustomValley", .methodLinkNest "CustomValley" 54 yX0_init "CustomValley", .methodLinkNest "CustomValley" 61 yX10_init "CustomValley", .methodLinkNest "CustomValley" 71 yX6_init "CustomValley"]
def dS (k : Nat) : Value := if k = 5 then .int 0 else .null
def fvB (G : GG) (σ : St) (ds : List Nat) (c i k : Nat) : Value := if c = 13 then dS k else match fr c k i with
  | some q => if k ∈ ds then .ref (G.2.2.1 q.1 q.2) else .null
  | none => if lg c k = true then .long (Int64.ofInt (σ c i k)) else .int (Int32.ofInt (σ c i k))
def eB (G : GG) (σ : St) (ds : List Nat) (c i ci : Nat) : va_E := .inr (ci, (List.range (nf ci)).map (fvB G σ ds c i))
def cw (G : GG) (σ : St) (L : List (Nat × Nat)) : va_W := L.map (fun q => (G.2.2.1 q.1 q.2, ce G σ q))
def wB (G : GG) (σ : St) (ds : List Nat) (c i ci : Nat) (L : List (Nat × Nat)) : va_W := (G.2.2.1 c i, eB G σ ds c i ci) :: cw G σ L
def BD (G : GG) (A : Nat → Prop) (σ : St) (ds : List Nat) (c0 i0 ci : Nat) (L : List (Nat × Nat)) (s : State) (H : Heap) (locs : List Loc) (n : Nat) : Prop :=
  va_P G.1 classes (wB G σ ds c0 i0 ci L) H ∧ va_D A (wB G σ ds c0 i0 ci L) ∧ va_S A s.heap H locs ∧ RO σ ∧ (n = 0 ∨ ∃ q ∈ L, G.2.2.1 q.1 q.2 + 1 = s.heap.size + n)
def TZ (A : Nat → Prop) (U : State) : Prop := va_Zq "java/lang/Throwable" "UNASSIGNED_STACK" "[Ljava/lang/StackTraceElement;" A U U.heap ∧ va_Zq "java/lang/Throwable" "SUPPRESSED_SENTINEL" "Ljava/util/List;" A U U.heap
def BX (M : MI) (G : GG) (A : Nat → Prop) (p : Program) (R : Room) (s : State) (mid : MethodId) (args : Array Value) (meth : Method) (c : Code) : Prop :=
  CX M G A p R s mid args meth c ∧ (∀ w ∈ nwC, va_Nw w s) ∧ meth.name = "<init>" ∧ (∀ q, s.heap.size ≤ q → A q) ∧ s.methodNamed? M.1 = some mid ∧ TZ A s
def FPB (own : String) (idx ci k : Nat) (ty : FieldType) : Prop := ∃ (C : String) (T : u_T) (N : Nat), classes[ci]? = some (C, T, N) ∧ k < N ∧ N = nf ci ∧ Cond.fieldLink own idx (T k).1 (T k).2.1 (T k).2.2.1 ∈ TB ∧ parseFieldDescriptor (T k).2.2.1 = some ty ∧ ((T k).2.2.2 = true → (T k).1 = own)
theorem ce_eq {G : GG} {σ τ : St} {q : Nat × Nat} (h : ∀ j, τ q.1 q.2 j = σ q.1 q.2 j) : ce G τ q = ce G σ q := by
  unfold ce
  have e1 : fv G τ q.1 q.2 = fv G σ q.1 q.2 := by funext k; unfold fv; rw [h k]
  rw [e1]
  simp only [h]
theorem eB_eq {G : GG} {σ τ : St} {ds : List Nat} {c i ci : Nat} (h : ∀ j, τ c i j = σ c i j) : eB G τ ds c i ci = eB G σ ds c i ci := by
  unfold eB
  have e1 : fvB G τ ds c i = fvB G σ ds c i := by funext k; unfold fvB; rw [h k]
  rw [e1]
theorem eB_full {G : GG} {σ : St} {ds : List Nat} {c i ci : Nat} (ho : oc c = some ci) (h13 : c ≠ 13) (h : ∀ k, k < nf ci → (fr c k i).isSome = true → k ∈ ds) : eB G σ ds c i ci = ce G σ (c, i) := by
  rw [ce_obj ho]
  unfold eB
  congr 1
  congr 1
  apply List.map_congr_left
  intro k hk
  rw [List.mem_range] at hk
  unfold fvB fv
  rw [if_neg h13, if_neg h13]
  cases e : fr c k i with
  | none => rfl
  | some q => simp only []; rw [if_pos (h k hk (by rw [e]; rfl))]
theorem fvB_k {G : GG} {σ : St} {ds : List Nat} {c i k : Nat} {q : Nat × Nat} (h13 : c ≠ 13) (h : fr c k i = some q) : fvB G σ (k :: ds) c i k = .ref (G.2.2.1 q.1 q.2) := by
  unfold fvB
  rw [if_neg h13, h]
  simp
theorem fvB_o {G : GG} {σ : St} {ds : List Nat} {c i k j : Nat} (hj : j ≠ k) : fvB G σ (k :: ds) c i j = fvB G σ ds c i j := by
  unfold fvB
  simp [hj]
theorem fvB_i {G : GG} {σ : St} {ds : List Nat} {c i k : Nat} {x : Int} (h13 : c ≠ 13) (h : fr c k i = none) (hg : lg c k = false) : fvB G (up σ c i k x) ds c i k = .int (Int32.ofInt x) := by
  unfold fvB
  rw [if_neg h13, h, up_s]
  simp [hg]
theorem fvB_j {G : GG} {σ : St} {ds : List Nat} {c i k j : Nat} {x : Int} (hj : j ≠ k) : fvB G (up σ c i k x) ds c i j = fvB G σ ds c i j := by
  unfold fvB
  rw [up_j hj]
theorem cw_app {G : GG} {σ : St} {L K : List (Nat × Nat)} : cw G σ (L ++ K) = cw G σ L ++ cw G σ K := List.map_append
theorem cw_eq {G : GG} {σ τ : St} {L : List (Nat × Nat)} (h : ∀ q ∈ L, ∀ j, τ q.1 q.2 j = σ q.1 q.2 j) : cw G τ L = cw G σ L := by
  unfold cw
  apply List.map_congr_left
  intro q hq
  rw [ce_eq (h q hq)]
theorem w_oi1 : Cond.instanceMethod Lib.objectInit ∈ TB := (tb_1 31 rfl rfl)
theorem w_oi2 : Cond.code Lib.objectInit ⟨#[0xb1]⟩ 1 none ∈ TB := (tb_1 32 rfl rfl)
section Build
variable {M N : MI} {G : GG} {A : Nat → Prop} {p : Program} {l : Launch} {e : Env} {R : Room} {s : State} {mid : MethodId} {args : Array Value} {below : List Frame} {meth : Method} {c : Code} {cells slots : Nat} {Z : State → Prop} {σ : St} {ds : List Nat} {c0 i0 ci : Nat} {L : List (Nat × Nat)} {H : Heap} {locs : List Loc} {ls : Array Slot} {lv : List (Nat × Value)} {pc : Nat} {rest : List Value} {n : Nat}
/-- a field of the object itself is set -/
theorem wb_put {idx k : Nat} {ty : FieldType} {v : Value} {σ' : St} {ds' : List Nat} (hB : BX M G A p R s mid args meth c) (d3 : decode M.2.1 pc = .ok (.putfield idx, 3)) (hf : FPB M.1.cls idx ci k ty) (hn : narrow ty v = v) (hfit : fits ty v = true) (hv : fvB G σ' ds' c0 i0 k = v) (ho : ∀ j, j ≠ k → fvB G σ' ds' c0 i0 j = fvB G σ ds c0 i0 j) (hL : ∀ q ∈ L, ∀ j, σ' q.1 q.2 j = σ q.1 q.2 j) (hR : RO σ') (hD : BD G A σ ds c0 i0 ci L s H locs n)
    (kk : ∀ H locs, BD G A σ' ds' c0 i0 ci L s H locs n → W p l e R s mid args below meth c H locs cells slots Z (F0 mid (pc + 3) ls rest)) : W p l e R s mid args below meth c H locs cells slots Z (F0 mid pc ls (v :: .ref (G.2.2.1 c0 i0) :: rest)) := by
  obtain ⟨C, T, N0, f1, f2, f3, f4, f6, f7⟩ := hf
  obtain ⟨hC, hN, hin, hA, -⟩ := hB
  obtain ⟨t1, ⟨ty0, t2⟩, t3⟩ := cls_tab ci f1
  obtain ⟨hP, hDD, hS, hRo, hsz⟩ := hD
  have key : ∀ (H1 : Heap) (locs1 : List Loc), va_P G.1 classes ((wB G σ ds c0 i0 ci L).set 0 (G.2.2.1 c0 i0, .inr (ci, ((List.range (nf ci)).map (fvB G σ ds c0 i0)).set k v))) H1 → va_D A ((wB G σ ds c0 i0 ci L).set 0 (G.2.2.1 c0 i0, .inr (ci, ((List.range (nf ci)).map (fvB G σ ds c0 i0)).set k v))) → va_S A s.heap H1 locs1 → W p l e R s mid args below meth c H1 locs1 cells slots Z (F0 mid (pc + 3) ls rest) := by
    intro H1 locs1 g1 g2 g3
    have e : ((List.range (nf ci)).map (fvB G σ ds c0 i0)).set k v = (List.range (nf ci)).map (fvB G σ' ds' c0 i0) := by
      apply List.ext_getElem?
      intro j
      rw [List.getElem?_set, List.getElem?_map, List.getElem?_map, List.length_map, List.length_range]
      by_cases hj : k = j
      · subst hj
        rw [if_pos rfl, if_pos (by omega), List.getElem?_range (by omega), ← hv]; rfl
      · rw [if_neg hj]
        by_cases hk : j < nf ci
        · rw [List.getElem?_range hk]
          show some _ = some _
          rw [ho j (fun e => hj e.symm)]
        · rw [List.getElem?_eq_none (by simp; omega)]; rfl
    rw [e] at g1 g2
    have e2 : (wB G σ ds c0 i0 ci L).set 0 (G.2.2.1 c0 i0, .inr (ci, (List.range (nf ci)).map (fvB G σ' ds' c0 i0))) = wB G σ' ds' c0 i0 ci L := by
      unfold wB
      rw [List.set_cons_zero, cw_eq hL]
      rfl
    rw [e2] at g1 g2
    exact kk H1 locs1 ⟨g1, g2, g3, hR, hsz⟩
  by_cases hfin : (T k).2.2.2 = true
  · exact va_putF hC.1 hC.2.1 hC.2.2.2.2.1 t1 ty0 t2 t3 hC.2.2.2.1 hC.2.2.2.2.2.2.2.1 hP hDD hS 0 rfl f1 k f2 (hC.2.2.2.2.1 _ f4) (fun x h => h) hfin hin (f7 hfin) f6 hn hfit (by simp; omega) d3 key
  · exact va_put hC.1 hC.2.1 hC.2.2.2.2.1 t1 ty0 t2 t3 hC.2.2.2.1 hC.2.2.2.2.2.2.2.1 hP hDD hS 0 rfl f1 k f2 (hC.2.2.2.2.1 _ f4) (fun x h => h) (by simpa using hfin) f6 hn hfit (by simp; omega) d3 key

theorem cw_at {G : GG} {σ : St} {L : List (Nat × Nat)} {q : Nat × Nat} (h : q ∈ L) : ∃ k : Nat, L[k]? = some q ∧ (cw G σ L)[k]? = some (G.2.2.1 q.1 q.2, ce G σ q) := by
  obtain ⟨k, hk⟩ := List.getElem?_of_mem h
  exact ⟨k, hk, by rw [cw, List.getElem?_map, hk]; rfl⟩
theorem bd_size {T : State} (hD : BD G A σ ds c0 i0 ci L s H locs n) (hT : T.heap = H) (X : Stand p l e R s mid args below meth c T locs n slots) : H.size = s.heap.size + n := by
  have h1 : H.size ≤ s.heap.size + n := by
    have := X.same.2.2.1
    rw [← hT]
    exact this
  have h2 := hD.2.2.1.1
  rcases hD.2.2.2.2 with h | ⟨q, hq, h⟩
  · omega
  · obtain ⟨k, -, hk⟩ := cw_at (G := G) (σ := σ) hq
    have := (hD.1 (k + 1) _ (by show (wB G σ ds c0 i0 ci L)[k + 1]? = _; unfold wB; rw [List.getElem?_cons_succ]; exact hk)).lt
    simp only at this
    omega
/-- a new array into a field of the object -/
theorem wb_arr {idx k pc2 na cl1 sl1 pc3 : Nat} {at0 : ArrayType} {ty : FieldType} {q : Nat × Nat} {v : Int32} (hB : BX M G A p R s mid args meth c) (d0 : decode M.2.1 pc = .ok (.aload_n 0, 1))
    (d1 : ∀ (H : Heap) (locs : List Loc) (rest : List Value), W p l e R s mid args below meth c H locs cells slots Z (F0 mid pc2 ls (.int v :: rest)) → W p l e R s mid args below meth c H locs cells slots Z (F0 mid (pc + 1) ls rest))
    (d2 : decode M.2.1 pc2 = .ok (.newarray at0, 2)) (d3 : decode M.2.1 (pc2 + 2) = .ok (.putfield idx, 3)) (hf : FPB M.1.cls idx ci k ty) (h13 : c0 ≠ 13) (hfr : fr c0 k i0 = some q) (hoq : oc q.1 = none) (hK2 : [FieldType.int, .byte, .boolean][ak q.1]? = some (newarray.typeOf at0)) (harr : Cond.arrayClass (newarray.typeOf at0) ∈ TB) (hdef : defaultValue (newarray.typeOf at0) = .int 0)
    (hal : al q.1 = na) (hcl1 : cells + 1 = cl1) (hsl1 : slots + na = sl1) (hpc : pc2 + 5 = pc3) (hv : v.toNatClampNeg = na) (hv0 : ¬ v < 0) (hby : na * componentBytes (newarray.typeOf at0) ≤ 536870912) (hc : cl1 ≤ R.cells) (hs : sl1 ≤ R.slots) (hz : ∀ j, σ q.1 q.2 j = 0) (hg : G.2.2.1 q.1 q.2 = s.heap.size + cells) (hty : ∀ a, narrow ty (.ref a) = .ref a ∧ fits ty (.ref a) = true)
    (hD : BD G A σ ds c0 i0 ci L s H locs cells) (hl : lv_has ls M.2.2.1 ((0, .ref (G.2.2.1 c0 i0)) :: lv))
    (kk : ∀ H locs, BD G A σ (k :: ds) c0 i0 ci (L ++ [q]) s H locs cl1 → W p l e R s mid args below meth c H locs cl1 sl1 Z (F0 mid pc3 ls [])) : W p l e R s mid args below meth c H locs cells slots Z (F0 mid pc ls []) := by
  have hC := hB.1
  subst hal
  subst hcl1
  subst hsl1
  subst hpc
  refine lv_aload_n hC.1 hC.2.1 d0 rfl (lv_at hl 0 rfl) (d1 H locs _ ?_)
  intro T hT X
  have hsz := bd_size hD hT X
  revert T
  show W p l e R s mid args below meth c H locs cells slots Z (F0 mid pc2 ls [.int v, .ref (G.2.2.1 c0 i0)])
  have hK := hC.2.2.2.2.2.2.2.1
  have hcl : s.vm.findClass ("[" ++ (newarray.typeOf at0).toString) = some (G.2.1 (ak q.1)) := by
    have h0 : (tyL G)[ak q.1]? = some (G.2.1 (ak q.1), newarray.typeOf at0) := by
      generalize ak q.1 = j at hK2
      match j, hK2 with
      | 0, hK2 => unfold tyL; simp at hK2 ⊢; exact hK2
      | 1, hK2 => unfold tyL; simp at hK2 ⊢; exact hK2
      | 2, hK2 => unfold tyL; simp at hK2 ⊢; exact hK2
      | j + 3, hK2 => simp at hK2
    have h1 := (hK.2 _ _ h0).2
    cases at0 <;> exact h1
  refine va_newaK hC.1 hC.2.1 (hC.2.2.2.2.1 _ harr) rfl d2 rfl hv0 hv hby hc hs hsz fun H1 cA e1 z1 o1 hAr hNm => ?_
  cases Option.some.inj (hcl.symm.trans hNm)
  obtain ⟨hP, hDD, hS, hRo, hlb⟩ := hD
  have hk : ∀ (k : Nat) (x : Nat × va_E), (wB G σ ds c0 i0 ci L)[k]? = some x → H1[x.1]? = H[x.1]? := fun k x hx => o1 x.1 (by rw [← hsz]; exact (hP k x hx).lt)
  have hcell : ce G σ q = .inl (G.2.1 (ak q.1), al q.1, .inl (fun j => 0)) := by
    have : ce G σ q = ce G σ (q.1, q.2) := rfl
    rw [this, ce_arr hoq]
    simp only [hz]
    rfl
  have hw : wB G σ ds c0 i0 ci (L ++ [q]) = wB G σ ds c0 i0 ci L ++ [(G.2.2.1 q.1 q.2, ce G σ q)] := by
    unfold wB
    rw [cw_app]
    rfl
  have hP1 : va_P G.1 classes (wB G σ ds c0 i0 ci (L ++ [q])) H1 := by
    rw [hw]
    refine (hP.kept hk).app (fun k x hx => ?_)
    have hz : k < 1 := (List.getElem?_eq_some_iff.mp hx).1
    rw [show k = 0 by omega] at hx
    cases hx
    rw [hcell]
    show H1[G.2.2.1 q.1 q.2]? = some (vp_cell _ _)
    rw [vp_cell_i, hg, e1, hdef]
  have hD1 : va_D A (wB G σ ds c0 i0 ci (L ++ [q])) := by
    rw [hw]
    exact hDD.push hP (by rw [hg, hsz]) (hB.2.2.2.1 _ (by omega))
  have hS1 : va_S A s.heap H1 locs := ⟨by omega, fun x h1 h2 => (o1 x (by omega)).trans (hS.2.1 x h1 h2), hS.2.2⟩
  show W p l e R s mid args below meth c H1 locs (cells + 1) (slots + al q.1) Z (F0 mid (pc2 + 2) ls [.ref (s.heap.size + cells), .ref (G.2.2.1 c0 i0)])
  rw [← hg]
  refine wb_put (σ' := σ) (ds' := k :: ds) (n := cells + 1) hB d3 hf (hty _).1 (hty _).2 ?_ ?_ (fun _ _ _ => rfl) hRo ⟨hP1, hD1, hS1, hRo, Or.inr ⟨q, by simp, by omega⟩⟩ kk
  · exact fvB_k h13 hfr
  · exact fun j hj => fvB_o hj
theorem wb_obj0 {idx : Nat} (hB : BX M G A p R s mid args meth c) (d0 : decode M.2.1 pc = .ok (.aload_n 0, 1)) (d1 : decode M.2.1 (pc + 1) = .ok (.invokespecial idx, 3)) (hm : Cond.methodLink M.1.cls idx Lib.objectInit ∈ TB) (h1 : 1 ≤ M.2.2.2.2) (hl : lv_has ls M.2.2.1 ((0, .ref (G.2.2.1 c0 i0)) :: lv))
    (kk : W p l e R s mid args below meth c H locs cells slots Z (F0 mid (pc + 4) ls [])) : W p l e R s mid args below meth c H locs cells slots Z (F0 mid pc ls []) := by
  have hC := hB.1
  refine lv_aload_n hC.1 hC.2.1 d0 rfl (lv_at hl 0 rfl) ?_
  have h9 := hC.2.2.2.2.2.2.2.2.1
  have h10 := hC.2.2.2.2.2.2.2.2.2.1
  refine W.objInit hC.1 hC.2.1 hC.2.2.2.1 (hC.2.2.2.2.1 _ hm) (hC.2.2.2.2.1 _ w_oi1) (hC.2.2.2.2.1 _ w_oi2) rfl (by rw [hC.2.2.1]; exact hl.1) rfl d1 (by omega) ?_ ?_
  · show 2 * 0 + 0 + 12 ≤ R.locals
    omega
  · exact kk
end Build
