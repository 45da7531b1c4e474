/-! ===== building: constructors as contracts ===== -/
def AB (G : GG) (c0 i0 sz : Nat) : Nat → Prop := fun q => q = G.2.2.1 c0 i0 ∨ sz ≤ q
def inL (L : List (Nat × Nat)) : Nat → Nat → Nat → Prop := fun c i _ => (c, i) ∈ L
abbrev rmB (N : MI) (mc ms : Nat) : Room := { frames := N.2.2.2.2, cells := mc, slots := ms, locals := 39 * N.2.2.2.2 }
def PcB (G : GG) (A : Nat → Prop) (σ : St) (c0 i0 ci sz : Nat) (vs : List Value) : Array Value → State → Prop := fun v U => v = (Value.ref (G.2.2.1 c0 i0) :: vs).toArray ∧ U.heap.size = sz ∧ va_P G.1 classes [(G.2.2.1 c0 i0, eB G σ [] c0 i0 ci)] U.heap ∧ va_K G.1 classes (tyL G) U ∧ (∀ w ∈ nwL, va_Nw w U) ∧ (∀ w ∈ nwC, va_Nw w U) ∧ SX G A U ∧ TZ A U
def QcB (G : GG) (A : Nat → Prop) (σ : St) (Lc : List (Nat × Nat)) (P : St → Prop) : Array Value → State → Outcome → State → Prop := fun _ st o t => (∃ τ : St, FR (inL Lc) σ τ ∧ P τ ∧ o = .returned none ∧ RO τ ∧ va_P G.1 classes (cw G τ Lc) t.heap ∧ va_D A (cw G τ Lc)) ∧ va_F A st t
def KM (l : Launch) (N : MI) (G : GG) (σ : St) (c0 i0 ci sz : Nat) (vs : List Value) (Lc : List (Nat × Nat)) (mc ms : Nat) (P : St → Prop) : Prop :=
  Met l N.1 (wsOf N) (rmB N mc ms) (PcB G (AB G c0 i0 sz) σ c0 i0 ci sz vs) (QcB G (AB G c0 i0 sz) σ Lc P) mc ms (AB G c0 i0 sz)
def B2 (G : GG) (A : Nat → Prop) (σ : St) (ds : List Nat) (c0 i0 ci : Nat) (L : List (Nat × Nat)) (c1 i1 ci1 : Nat) (s : State) (H : Heap) (locs : List Loc) (n : Nat) : Prop :=
  va_P G.1 classes (wB G σ ds c0 i0 ci L ++ [(G.2.2.1 c1 i1, eB G σ [] c1 i1 ci1)]) H ∧ va_D A (wB G σ ds c0 i0 ci L ++ [(G.2.2.1 c1 i1, eB G σ [] c1 i1 ci1)]) ∧ va_S A s.heap H locs ∧ RO σ ∧ H.size = s.heap.size + n
def dfl (c i k : Nat) : Value := if c = 13 then dS k else match fr c k i with
  | some _ => .null
  | none => if lg c k = true then .long 0 else .int 0
theorem fvB_dfl {G : GG} {σ : St} {c i k : Nat} (h : ∀ j, σ c i j = 0) : fvB G σ [] c i k = dfl c i k := by
  unfold fvB dfl
  by_cases h13 : c = 13
  · rw [if_pos h13, if_pos h13]
  · rw [if_neg h13, if_neg h13]
    cases fr c k i with
    | some q => simp
    | none => rw [h k]; rfl
theorem sx_narrow {G : GG} {A B : Nat → Prop} {s : State} (h : SX G A s) (hAB : ∀ q, B q → A q) : SX G B s := ⟨⟨vk_S.narrow h.1.1 hAB, va_Z.narrow h.1.2.1 hAB, h.1.2.2.imp (fun _ z => ⟨z.1, va_Z.narrow z.2 hAB⟩)⟩, h.2⟩
theorem nwC_warm {s U : State} (hW : s.WarmedH U.vm) (h : ∀ w ∈ nwC, va_Nw w s) : ∀ w ∈ nwC, va_Nw w U := by
  intro w hw
  have h1 := h w hw
  simp only [nwC, List.mem_cons, List.not_mem_nil, or_false] at hw
  rcases hw with rfl | rfl | rfl | rfl | rfl | rfl | rfl | rfl | rfl <;> exact va_Nw.warmM hW h1
theorem nwC_calling {U : State} {g : JFrame} {mk : MethodId} {a : Array Value} (h : ∀ w ∈ nwC, va_Nw w U) : ∀ w ∈ nwC, va_Nw w (U.calling g mk a) := by
  intro w hw
  have h1 := h w hw
  simp only [nwC, List.mem_cons, List.not_mem_nil, or_false] at hw
  rcases hw with rfl | rfl | rfl | rfl | rfl | rfl | rfl | rfl | rfl <;> exact va_Nw.same (u := U) (U := U.calling g mk a) rfl rfl h1
theorem pcB_blind {G : GG} {A : Nat → Prop} {σ : St} {c0 i0 ci sz : Nat} {vs : List Value} : FrameBlind (PcB G A σ c0 i0 ci sz vs) := by
  intro a U g mk h
  obtain ⟨h1, h2, h3, h4, h5, h6, h7, h8⟩ := h
  exact ⟨h1, h2, h3, va_K.moved (u := U) (U := U.calling g mk a) (Vm.Alike.refl U.vm) h4, nw_calling h5, nwC_calling h6, sx_calling h7, va_Zq.moved (u := U) (U := U.calling g mk a) (Vm.Alike.refl U.vm) h8.1, va_Zq.moved (u := U) (U := U.calling g mk a) (Vm.Alike.refl U.vm) h8.2⟩
theorem tz_at {A B : Nat → Prop} {s U : State} {H : Heap} {locs : List Loc} (hS : va_S A s.heap H locs) (hU : U.heap = H) (hW : s.WarmedH U.vm) (h : TZ A s) (hAB : ∀ q, B q → A q) : TZ B U := by
  unfold TZ
  rw [hU]
  exact ⟨va_Zq.narrow (va_Zq.kept (va_Zq.moved hW.alike h.1) hS.2.1) hAB, va_Zq.narrow (va_Zq.kept (va_Zq.moved hW.alike h.2) hS.2.1) hAB⟩
def HG (G : GG) (sz : Nat) (L : List (Nat × Nat)) : Prop := ∀ (j : Nat) (q : Nat × Nat), L[j]? = some q → G.2.2.1 q.1 q.2 = sz + j
def ZL (σ : St) (L : List (Nat × Nat)) : Prop := ∀ q ∈ L, ∀ j, σ q.1 q.2 j = 0
theorem HG.sub {G : GG} {sz k : Nat} {L : List (Nat × Nat)} (h : HG G sz L) (pre sub post : List (Nat × Nat)) (hk : pre.length = k) (hL : L = pre ++ (sub ++ post)) : HG G (sz + k) sub := by
  intro j q hq
  have h1 : L[k + j]? = some q := by
    rw [hL, ← hk, List.getElem?_append_right (by omega), show pre.length + j - pre.length = j by omega, List.getElem?_append_left (List.getElem?_eq_some_iff.mp hq).1]
    exact hq
  rw [h _ q h1]
  omega
theorem ZL.fr {σ τ : St} {L K Lc : List (Nat × Nat)} (h : ZL σ L) (f : FR (inL Lc) σ τ) (hK : ∀ q ∈ K, q ∈ L ∧ q ∉ Lc) : ZL τ K := fun q hq j => (f q.1 q.2 j (hK q hq).2).trans (h q (hK q hq).1 j)
theorem ZL.sub {σ : St} {L K : List (Nat × Nat)} (h : ZL σ L) (hK : ∀ q ∈ K, q ∈ L) : ZL σ K := fun q hq j => h q (hK q hq) j
section Build2
variable {M N : MI} {G : GG} {A : Nat → Prop} {p : Program} {l : Launch} {e : Env} {R : Room} {s : State} {mid : MethodId} {args : Array Value} {below : List Frame} {meth : Method} {c : Code} {cells slots : Nat} {Z : State → Prop} {σ : St} {ds : List Nat} {c0 i0 ci : Nat} {L : List (Nat × Nat)} {H : Heap} {locs : List Loc} {ls : Array Slot} {lv : List (Nat × Value)} {pc : Nat} {rest : List Value} {n : Nat}
theorem met_B {sz mc ms : Nat} {vs : List Value} {Lc : List (Nat × Nat)} {P : St → Prop} (hpl : plainName N.1.cls = true) (hrt : N.2.2.2.1 = none) (hnm : N.1.name = "<init>") (hR : RO σ) (hlen : (lg_sl (Value.ref (G.2.2.1 c0 i0) :: vs)).length ≤ N.2.2.1)
    (body : ∀ (p : Program) (e : Env) (s : State) (mid : MethodId) (below : List Frame) (meth : Method) (c : Code) (Z : State → Prop), BX N G (AB G c0 i0 sz) p (rmB N mc ms) s mid (Value.ref (G.2.2.1 c0 i0) :: vs).toArray meth c → s.heap.size = sz →
      (∀ (H : Heap) (locs : List Loc) (ls : Array Slot) (pc : Nat) (τ : St), FR (inL Lc) σ τ → P τ → RO τ → va_P G.1 classes (cw G τ Lc) H → va_D (AB G c0 i0 sz) (cw G τ Lc) → va_S (AB G c0 i0 sz) s.heap H locs → decode N.2.1 pc = .ok (.return_, 1) → W p l e (rmB N mc ms) s mid (Value.ref (G.2.2.1 c0 i0) :: vs).toArray below meth c H locs mc ms Z (F0 mid pc ls [])) →
      ∀ (H : Heap) (locs : List Loc) (ls : Array Slot), BD G (AB G c0 i0 sz) σ [] c0 i0 ci [] s H locs 0 → lv_has ls N.2.2.1 (lv_args 0 (Value.ref (G.2.2.1 c0 i0) :: vs)) → W p l e (rmB N mc ms) s mid (Value.ref (G.2.2.1 c0 i0) :: vs).toArray below meth c H locs 0 0 Z (F0 mid 0 ls [])) :
    KM l N G σ c0 i0 ci sz vs Lc mc ms P := by
  refine Met.ofW (cc := N.2.1) (maxL := N.2.2.1) (ret := N.2.2.2.1) hpl rfl ?_
  intro p e s m args below meth c s₁ B hml hv
  obtain ⟨rfl, hsz, hP, hK, hN, hNC, hSX, hTZ⟩ := hv
  have hts : ∀ w ∈ wsOf N, w.before (Value.ref (G.2.2.1 c0 i0) :: vs).toArray s = true := atoms_spec (ws := wsOf N) B.pre
  have hC : CX N G (AB G c0 i0 sz) p (rmB N mc ms) s m (Value.ref (G.2.2.1 c0 i0) :: vs).toArray meth c := ⟨B.exec, B.bytes, hml, findClass_of_methodNamed B.named, fun w hw => hts w (List.mem_cons_of_mem _ hw), B.notSynchronized, B.returns, hK, Nat.le_refl _, Nat.le_refl _, hN, hSX⟩
  have hin : meth.name = "<init>" := (name_of_methodNamed B.named B.method).1.trans hnm
  rw [lg_entry_eq]
  refine body p e s m below meth c _ ⟨hC, hNC, hin, fun q hq => Or.inr (by omega), B.named, hTZ⟩ hsz ?_ s.heap [] _ ⟨hP, ⟨?_, ?_⟩, va_S.rf, hR, Or.inl rfl⟩ (lv_entry _ hlen)
  · intro H locs ls pc τ h1 h2 h3 h4 h5 h6 hd
    exact W.vret B.exec B.bytes (by rw [B.returns, hrt]) (fun t ht _ => ⟨⟨τ, h1, h2, rfl, h3, by rw [ht]; exact h4, h5⟩, h6.F ht⟩) h6.2.2 hd B.notSynchronized
  · intro i j x y hx hy _
    have h1 : i < 1 := (List.getElem?_eq_some_iff.mp hx).1
    have h2 : j < 1 := (List.getElem?_eq_some_iff.mp hy).1
    omega
  · intro k x hx
    have h1 : k < 1 := (List.getElem?_eq_some_iff.mp hx).1
    rw [show k = 0 by omega] at hx
    cases hx
    exact Or.inl rfl
theorem wb_new {idx1 c1 i1 ci1 N0 cl1 sl1 pc3 : Nat} {C : String} {T : u_T} {ty0 : Nat → FieldType} (hB : BX M G A p R s mid args meth c) (d0 : decode M.2.1 pc = .ok (.aload_n 0, 1)) (d1 : decode M.2.1 (pc + 1) = .ok (.new idx1, 3)) (d2 : decode M.2.1 (pc + 4) = .ok (.dup, 1)) (hcl : classes[ci1]? = some (C, T, N0)) (hlink : Cond.classLink M.1.cls idx1 C ∈ TB) (hins : Cond.instantiable C N0 ∈ TB) (hini : Cond.initialized C ∈ TB) (hty : ∀ k, k < N0 → parseFieldDescriptor (T k).2.2.1 = some (ty0 k)) (hnf : N0 = nf ci1) (hdf : ∀ j, j < N0 → defaultValue (ty0 j) = dfl c1 i1 j) (hz : ∀ j, σ c1 i1 j = 0)
    (hcl1 : cells + 1 = cl1) (hsl1 : slots + N0 = sl1) (hpc : pc + 5 = pc3) (hc : cl1 ≤ R.cells) (hs : sl1 ≤ R.slots) (hg : G.2.2.1 c1 i1 = s.heap.size + cells) (hD : BD G A σ ds c0 i0 ci L s H locs cells) (hl : lv_has ls M.2.2.1 ((0, .ref (G.2.2.1 c0 i0)) :: lv))
    (kk : ∀ H locs, B2 G A σ ds c0 i0 ci L c1 i1 ci1 s H locs cl1 → W p l e R s mid args below meth c H locs cl1 sl1 Z (F0 mid pc3 ls [.ref (G.2.2.1 c1 i1), .ref (G.2.2.1 c1 i1), .ref (G.2.2.1 c0 i0)])) : W p l e R s mid args below meth c H locs cells slots Z (F0 mid pc ls []) := by
  have hC := hB.1
  subst hcl1
  subst hsl1
  subst hpc
  refine lv_aload_n hC.1 hC.2.1 d0 rfl (lv_at hl 0 rfl) ?_
  intro T1 hT X
  have hsz := bd_size hD hT X
  revert T1
  show W p l e R s mid args below meth c H locs cells slots Z (F0 mid (pc + 1) ls [.ref (G.2.2.1 c0 i0)])
  have hKn := hC.2.2.2.2.2.2.2.1.1 ci1 _ hcl
  refine W.newcK hC.1 hC.2.1 hC.2.2.2.1 (hC.2.2.2.2.1 _ hlink) (hC.2.2.2.2.1 _ hins) (hC.2.2.2.2.1 _ hini) rfl d1 hc hs hKn.2.1 hsz fun H1 kC hkC e1 z1 o1 => ?_
  obtain ⟨hP, hDD, hS, hRo, hlb⟩ := hD
  have hk : ∀ (k : Nat) (x : Nat × va_E), (wB G σ ds c0 i0 ci L)[k]? = some x → H1[x.1]? = H[x.1]? := fun k x hx => o1 x.1 (by rw [← hsz]; exact (hP k x hx).lt)
  show W p l e R s mid args below meth c H1 locs (cells + 1) (slots + N0) Z (F0 mid (pc + 4) ls [.ref (s.heap.size + cells), .ref (G.2.2.1 c0 i0)])
  refine lv_dup hC.1 hC.2.1 d2 rfl ?_
  rw [← hg]
  refine kk H1 locs ⟨(hP.kept hk).app (fun k x hx => ?_), hDD.push hP (by rw [hg, hsz]) (hB.2.2.2.1 _ (by omega)), ⟨by omega, fun x h1 h2 => (o1 x (by omega)).trans (hS.2.1 x h1 h2), hS.2.2⟩, hRo, by omega⟩
  have hz1 : k < 1 := (List.getElem?_eq_some_iff.mp hx).1
  rw [show k = 0 by omega] at hx
  cases hx
  refine ⟨_, hcl, ?_⟩
  rw [← hg] at e1
  refine (u_born ty0 hC.2.2.2.2.1 (cls_tab ci1 hcl).1 hKn hkC e1 hty).to (fun j hj => ?_)
  rw [hdf j hj]
  show dfl c1 i1 j = ((List.range (nf ci1)).map (fvB G σ [] c1 i1)).getD j .null
  rw [List.getD_eq_getElem?_getD, List.getElem?_map, List.getElem?_range (by omega)]
  show dfl c1 i1 j = fvB G σ [] c1 i1 j
  rw [fvB_dfl hz]
/-- the constructor of the new object is called -/
theorem wb_call {idx2 mc ms c1 i1 ci1 nn cl1 sl1 pc3 : Nat} {Lc : List (Nat × Nat)} {P : St → Prop} {vs : List Value} (hB : BX M G A p R s mid args meth c) (d : decode M.2.1 pc = .ok (.invokespecial idx2, 3)) (hlk : Cond.methodLink M.1.cls idx2 N.1 ∈ TB ∨ ∃ host, Cond.methodLinkNest M.1.cls idx2 N.1 host ∈ nwC) (hMO : MO N nn) (hin : Cond.instanceMethod N.1 ∈ TB) (hnm : N.1.name = "<init>") (hrt : N.2.2.2.1 = none) (hrk : N.2.2.2.2 < M.2.2.2.2) (hM : KM l N G σ c1 i1 ci1 (s.heap.size + cells) vs Lc mc ms P) (hvl : vs.length = nn) (hdis : ∀ q ∈ L, q ∉ Lc) (hd0 : (c0, i0) ∉ Lc) (hcl1 : cells + mc = cl1) (hsl1 : slots + ms = sl1) (hpc : pc + 3 = pc3) (hcc : cl1 ≤ R.cells) (hss : sl1 ≤ R.slots) (hsz : ls.size = M.2.2.1) (hlb : ∃ q ∈ Lc, G.2.2.1 q.1 q.2 + 1 = s.heap.size + cl1) (hD : B2 G A σ ds c0 i0 ci L c1 i1 ci1 s H locs cells)
    (kk : ∀ τ H locs, FR (inL Lc) σ τ → P τ → BD G A τ ds c0 i0 ci (L ++ Lc) s H locs cl1 → W p l e R s mid args below meth c H locs cl1 sl1 Z (F0 mid pc3 ls [.ref (G.2.2.1 c1 i1), .ref (G.2.2.1 c0 i0)])) : W p l e R s mid args below meth c H locs cells slots Z (F0 mid pc ls (vs.reverse ++ .ref (G.2.2.1 c1 i1) :: [.ref (G.2.2.1 c1 i1), .ref (G.2.2.1 c0 i0)])) := by
  have hC := hB.1
  subst hcl1
  subst hsl1
  subst hpc
  have hc : cells + mc ≤ R.cells ∧ slots + ms ≤ R.slots := ⟨hcc, hss⟩
  have hts := hC.2.2.2.2.1
  obtain ⟨hP, hDD, hS, hRo, hHs⟩ := hD
  have hroom : (rmB N mc ms).frames + 1 ≤ R.frames ∧ 8 + (N.2.2.1 + 11) + (rmB N mc ms).locals ≤ R.locals := by
    have h9 := hC.2.2.2.2.2.2.2.2.1
    have h10 := hC.2.2.2.2.2.2.2.2.2.1
    have h11 := hMO.2.2.2.2
    show N.2.2.2.2 + 1 ≤ R.frames ∧ 8 + (N.2.2.1 + 11) + 39 * N.2.2.2.2 ≤ R.locals
    omega
  have hlast : (wB G σ ds c0 i0 ci L ++ [(G.2.2.1 c1 i1, eB G σ [] c1 i1 ci1)])[(wB G σ ds c0 i0 ci L).length]? = some (G.2.2.1 c1 i1, eB G σ [] c1 i1 ci1) := by
    rw [List.getElem?_append_right (Nat.le_refl _)]; simp
  have hAA : ∀ q, AB G c1 i1 (s.heap.size + cells) q → A q := by
    intro q hq
    rcases hq with rfl | hq
    · exact hDD.2 _ _ hlast
    · exact hB.2.2.2.1 q (by omega)
  have hpre : ∀ U : State, U.heap = H → s.WarmedH U.vm → PcB G (AB G c1 i1 (s.heap.size + cells)) σ c1 i1 ci1 (s.heap.size + cells) vs (Value.ref (G.2.2.1 c1 i1) :: vs).toArray U := fun U hU hWm =>
    ⟨rfl, by rw [hU, hHs], fun k x hx => by
      have h1 : k < 1 := (List.getElem?_eq_some_iff.mp hx).1
      rw [show k = 0 by omega] at hx
      cases hx
      rw [hU]
      exact hP _ _ hlast, va_K.moved hWm.alike hC.2.2.2.2.2.2.2.1, nw_warm hWm hC.2.2.2.2.2.2.2.2.2.2.1, nwC_warm hWm hB.2.1, sx_narrow (sx_at hS hU hWm hC.2.2.2.2.2.2.2.2.2.2.2) hAA, tz_at hS hU hWm hB.2.2.2.2.2 hAA⟩
  have S : CallFix p mid c M.2.1 M.2.2.1 s args TB M.1.cls := ⟨hC.1, hC.2.1, hC.2.2.1, hC.2.2.2.1, hts⟩
  have hrun : va_Run p l e R s mid args below meth c H locs cells slots mc ms (F0 mid pc ls (vs.reverse ++ .ref (G.2.2.1 c1 i1) :: [.ref (G.2.2.1 c1 i1), .ref (G.2.2.1 c0 i0)])) [.ref (G.2.2.1 c1 i1), .ref (G.2.2.1 c0 i0)] (QcB G (AB G c1 i1 (s.heap.size + cells)) σ Lc P (Value.ref (G.2.2.1 c1 i1) :: vs).toArray) (AB G c1 i1 (s.heap.size + cells)) := by
    unfold KM at hM
    rcases hlk with hm | ⟨host, hm⟩
    · exact va_runI S hM ⟨callB_of nn hts (good_ws hMO) (by rw [← hrt]) rfl rfl (hts _ hMO.2.1) (hts _ hm) hMO.2.2.1 hroom, hnm, hts _ hin⟩ ⟨pcB_blind, hpre⟩ rfl hvl hsz rfl (lv_room (Nat.le_of_ble_eq_true rfl)) d hc
    · exact va_runIN (host := host) S hM ⟨va_cnB nn hts (good_ws hMO) (by rw [← hrt]) rfl rfl (hB.2.1 _ hm) (hts _ hMO.2.1) hMO.2.2.1 hroom, hnm, hts _ hin⟩ ⟨pcB_blind, hpre⟩ rfl hvl hsz rfl (lv_room (Nat.le_of_ble_eq_true rfl)) d hc
  intro T hT X
  obtain ⟨v, st₀, t, T', L', h0, X', hL, e1, e2, ⟨⟨τ, hfr, hq, hv, hR1, hP1, hD1⟩, hz, hk⟩, go⟩ := hrun T hT X
  cases hv
  rw [h0] at hz hk
  have hS1 : va_S A s.heap T'.heap (locs ++ L') := by
    refine ⟨Nat.le_trans hS.1 (by rw [e1]; exact hz), fun q h1 h2 => ?_, fun q hq => ?_⟩
    · rw [e1, hk q (Nat.lt_of_lt_of_le h1 hS.1) (fun z => h2 (hAA q z))]
      exact hS.2.1 q h1 h2
    · rcases List.mem_append.mp hq with h | h
      · exact hS.2.2 q h
      · exact hAA _ (hL q h)
  have hold : wB G τ ds c0 i0 ci L = wB G σ ds c0 i0 ci L := by
    unfold wB
    rw [cw_eq (fun q hq j => hfr q.1 q.2 j (hdis q hq)), eB_eq (fun j => hfr c0 i0 j hd0)]
  have hapart : ∀ (k : Nat) (x : Nat × va_E), (wB G σ ds c0 i0 ci L)[k]? = some x → x.1 < H.size ∧ ¬ AB G c1 i1 (s.heap.size + cells) x.1 := by
    intro k x hx
    have hlt : k < (wB G σ ds c0 i0 ci L).length := (List.getElem?_eq_some_iff.mp hx).1
    have hx2 : (wB G σ ds c0 i0 ci L ++ [(G.2.2.1 c1 i1, eB G σ [] c1 i1 ci1)])[k]? = some x := by rw [List.getElem?_append_left hlt]; exact hx
    have hl := (hP k x hx2).lt
    refine ⟨hl, fun hab => ?_⟩
    rcases hab with hab | hab
    · have := hDD.1 k _ x _ hx2 hlast hab
      omega
    · omega
  have hwn : wB G τ ds c0 i0 ci (L ++ Lc) = wB G τ ds c0 i0 ci L ++ cw G τ Lc := by
    unfold wB
    rw [cw_app]
    rfl
  have hPn : va_P G.1 classes (wB G τ ds c0 i0 ci (L ++ Lc)) T'.heap := by
    rw [hwn, hold, e1]
    refine va_P.app (fun k x hx => ?_) hP1
    have hlt : k < (wB G σ ds c0 i0 ci L).length := (List.getElem?_eq_some_iff.mp hx).1
    obtain ⟨g1, g2⟩ := hapart k x hx
    exact (hP k x (by rw [List.getElem?_append_left hlt]; exact hx)).kept (hk x.1 g1 g2)
  have hDn : va_D A (wB G τ ds c0 i0 ci (L ++ Lc)) := by
    rw [hwn, hold]
    refine va_D.app ⟨fun i j x y hx hy hxy => ?_, fun k x hx => ?_⟩ (hD1.weaken (fun k x _ h => hAA x.1 h)) (fun i j x y hx hy hxy => (hapart i x hx).2 (by rw [hxy]; exact hD1.2 j y hy))
    · have h1 : i < (wB G σ ds c0 i0 ci L).length := (List.getElem?_eq_some_iff.mp hx).1
      have h2 : j < (wB G σ ds c0 i0 ci L).length := (List.getElem?_eq_some_iff.mp hy).1
      exact hDD.1 i j x y (by rw [List.getElem?_append_left h1]; exact hx) (by rw [List.getElem?_append_left h2]; exact hy) hxy
    · have h1 : k < (wB G σ ds c0 i0 ci L).length := (List.getElem?_eq_some_iff.mp hx).1
      exact hDD.2 k x (by rw [List.getElem?_append_left h1]; exact hx)
  obtain ⟨q, hq1, hq2⟩ := hlb
  obtain ⟨t2, a1, b1⟩ := kk τ T'.heap (locs ++ L') hfr hq ⟨hPn, hDn, hS1, hR1, Or.inr ⟨q, List.mem_append_right _ hq1, hq2⟩⟩ T' rfl X'
  exact ⟨t2, go t2 a1, b1⟩
end Build2
