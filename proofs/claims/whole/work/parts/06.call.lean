/-! ===== calls ===== -/
def entL : List AV → List AV
  | [] => []
  | .inr (.inl x) :: as => vL x :: vU :: entL as
  | .inl x :: as => vI x :: entL as
  | .inr (.inr q) :: as => .inr (.inr q) :: entL as
def ent (as : List AV) (n : Nat) : List AV := entL as ++ List.replicate (n - (entL as).length) vU
theorem entL_len {G : GG} : ∀ (as : List AV) (vs : List Value), rs G vs as → (lg_sl vs).length = (entL as).length := by
  intro as
  induction as with
  | nil => intro vs h; cases rs_nil h; rfl
  | cons a as ih =>
    intro vs h
    obtain ⟨v, vs, rfl, h1, h2⟩ := rs_cons h
    have e : (lg_sl (v :: vs)).length = (if v.category = 2 then 2 else 1) + (lg_sl vs).length := by
      unfold lg_sl
      rw [List.flatMap_cons, List.length_append]
      split <;> rfl
    rw [e, ih vs h2]
    match a, h1 with
    | .inl x, h1 => obtain ⟨y, rfl, -⟩ := h1; simp [entL, Value.category]; omega
    | .inr (.inl x), h1 => obtain ⟨y, rfl, -⟩ := h1; simp [entL, Value.category]; omega
    | .inr (.inr q), h1 => obtain ⟨rfl, -⟩ := h1; simp [entL, Value.category]; omega
theorem entL_at {G : GG} : ∀ (as : List AV) (vs : List Value) (k : Nat), rs G vs as → ∀ (i : Nat) (a : AV), (entL as)[i]? = some a → a ≠ vU → ∃ v, (k + i, v) ∈ lv_args k vs ∧ rv G v a := by
  intro as
  induction as with
  | nil => intro vs k h i a hi; simp [entL] at hi
  | cons b as ih =>
    intro vs k h i a hi ha
    obtain ⟨v, vs, rfl, h1, h2⟩ := rs_cons h
    match b, h1 with
    | .inl x, h1 =>
      obtain ⟨y, rfl, hy⟩ := h1
      cases i with
      | zero => simp [entL] at hi; subst hi; exact ⟨_, List.mem_cons_self, y, rfl, hy⟩
      | succ i =>
        obtain ⟨u, g1, g2⟩ := ih vs (k + 1) h2 i a (by simpa [entL] using hi) ha
        exact ⟨u, List.mem_cons_of_mem _ (by simpa [Value.category, Nat.add_comm, Nat.add_left_comm] using g1), g2⟩
    | .inr (.inr q), h1 =>
      obtain ⟨rfl, hq⟩ := h1
      cases i with
      | zero => simp [entL] at hi; subst hi; exact ⟨_, List.mem_cons_self, rfl, hq⟩
      | succ i =>
        obtain ⟨u, g1, g2⟩ := ih vs (k + 1) h2 i a (by simpa [entL] using hi) ha
        exact ⟨u, List.mem_cons_of_mem _ (by simpa [Value.category, Nat.add_comm, Nat.add_left_comm] using g1), g2⟩
    | .inr (.inl x), h1 =>
      obtain ⟨y, rfl, hy⟩ := h1
      match i, hi with
      | 0, hi => simp [entL] at hi; subst hi; exact ⟨_, List.mem_cons_self, y, rfl, hy⟩
      | 1, hi => simp [entL] at hi; exact absurd hi.symm ha
      | i + 2, hi =>
        obtain ⟨u, g1, g2⟩ := ih vs (k + 2) h2 i a (by simpa [entL] using hi) ha
        exact ⟨u, List.mem_cons_of_mem _ (by simpa [Value.category, Nat.add_comm, Nat.add_left_comm] using g1), g2⟩
theorem rl_ent {G : GG} {as : List AV} {vs : List Value} {n : Nat} (h : rs G vs as) (hn : (entL as).length ≤ n) : rl G n ((lg_sl vs ++ List.replicate (n - (lg_sl vs).length) Slot.unset).toArray) (ent as n) := by
  refine ⟨lv_args 0 vs, lv_entry vs (by rw [entL_len as vs h]; exact hn), fun i a hi ha => ?_⟩
  unfold ent at hi
  by_cases hl : i < (entL as).length
  · rw [List.getElem?_append_left hl] at hi
    obtain ⟨v, h1, h2⟩ := entL_at as vs 0 h i a hi ha
    exact ⟨v, by simpa using h1, h2⟩
  · rw [List.getElem?_append_right (by omega)] at hi
    have := List.mem_of_getElem? hi
    rw [List.mem_replicate] at this
    exact absurd this.2 ha
abbrev rmOf (N : MI) : Room := { frames := N.2.2.2.2, cells := 0, slots := 0, locals := 39 * N.2.2.2.2 }
abbrev wsOf (N : MI) : List Cond := Cond.code N.1 N.2.1 N.2.2.1 N.2.2.2.1 :: TB
def PcOf (G : GG) (A : Nat → Prop) (σ : St) (vs : List Value) : Array Value → State → Prop := fun v U => v = vs.toArray ∧ va_P G.1 classes (ww G σ) U.heap ∧ va_K G.1 classes (tyL G) U ∧ (∀ w ∈ nwL, va_Nw w U) ∧ SX G A U
def oR (G : GG) (v : Option Value) (r : Res) : Prop := match r with
  | .inl none => v = none
  | .inl (some a) => ∃ u, v = some u ∧ rv G u a
  | .inr _ => False
def QcOf (G : GG) (A : Nat → Prop) (Q : Res → St → Prop) : Array Value → State → Outcome → State → Prop := fun _ st o t =>
  (∃ (r : Res) (σ' : St) (v : Option Value), Q r σ' ∧ o = .returned v ∧ oR G v r ∧ va_P G.1 classes (ww G σ') t.heap ∧ va_D A (ww G σ') ∧ RO σ') ∧ va_F A st t
theorem met_of {N : MI} {as : List AV} {vs : List Value} {σ : St} {Q : Res → St → Prop} {G : GG} {A : Nat → Prop} (l : Launch) (h : WP N 0 (ent as N.2.2.1) [] σ Q) (hnt : ∀ q σ', ¬ Q (.inr q) σ') (hpl : plainName N.1.cls = true) (hs : rs G vs as) (hlen : (entL as).length ≤ N.2.2.1) (hD : va_D A (ww G σ)) (hR : RO σ) (hCD : CD G) (hrk : N.2.2.2.2 ≠ 12) :
    Met l N.1 (wsOf N) (rmOf N) (PcOf G A σ vs) (QcOf G A Q) 0 0 A := by
  refine Met.ofW (cc := N.2.1) (maxL := N.2.2.1) (ret := N.2.2.2.1) hpl rfl ?_
  intro p e s m args below meth c s₁ B hml hv
  obtain ⟨rfl, hP, hK, hN, hSX⟩ := hv
  have hts : ∀ w ∈ wsOf N, w.before vs.toArray s = true := atoms_spec (ws := wsOf N) B.pre
  have hC : CX N G A p (rmOf N) s m vs.toArray meth c := ⟨B.exec, B.bytes, hml, findClass_of_methodNamed B.named, fun w hw => hts w (List.mem_cons_of_mem _ hw), B.notSynchronized, B.returns, hK, Nat.le_refl _, Nat.le_refl _, hN, hSX⟩
  rw [lg_entry_eq]
  refine h G A p l e (rmOf N) s m vs.toArray below meth c 0 0 _ hC ⟨⟨fun q => absurd q hrk, fun _ => B.named⟩, Nat.le_refl _, Nat.le_refl _⟩ ⟨?_, ?_, ?_, ?_⟩ s.heap [] _ [] ⟨hP, hD, va_S.rf, hR, hCD⟩ (rl_ent hs hlen) trivial
  · intro H locs σ' pc ls y hW hd hQ hty
    have hq : ∀ t : State, t.heap = H → s.WarmedH t.vm → QcOf G A Q vs.toArray s (.returned (some (.int y))) t := fun t ht _ => ⟨⟨_, σ', _, hQ, rfl, ⟨_, rfl, y, rfl, rfl⟩, by rw [ht]; exact hW.1, hW.2.1, hW.2.2.2.1⟩, hW.2.2.1.F ht⟩
    rcases hty with hty | ⟨hty, hy⟩
    · exact W.iret B.exec B.bytes (by rw [B.returns, hty]) hq hW.2.2.1.2.2 hd B.notSynchronized
    · exact W.zret B.exec B.bytes (by rw [B.returns, hty]) (by rcases hy with rfl | rfl <;> rfl) hq hW.2.2.1.2.2 hd B.notSynchronized
  · intro H locs σ' pc ls hW hd hQ hty
    exact W.vret B.exec B.bytes (by rw [B.returns, hty]) (fun t ht _ => ⟨⟨_, σ', _, hQ, rfl, rfl, by rw [ht]; exact hW.1, hW.2.1, hW.2.2.2.1⟩, hW.2.2.1.F ht⟩) hW.2.2.1.2.2 hd B.notSynchronized
  · intro H locs σ' pc ls q hW hq hd hQ hty
    obtain ⟨n, hty⟩ := hty
    exact W.aret B.exec B.bytes (by rw [B.returns, hty]) (Or.inl ⟨n, rfl⟩) (Or.inr ⟨_, rfl⟩) (fun t ht _ => ⟨⟨_, σ', _, hQ, rfl, ⟨_, rfl, rfl, Or.inl hq⟩, by rw [ht]; exact hW.1, hW.2.1, hW.2.2.2.1⟩, hW.2.2.1.F ht⟩) hW.2.2.1.2.2 hd B.notSynchronized
  · intro T H locs σ' pc ls st q _ _ _ _ hQ _
    exact absurd hQ (hnt q σ')
def cat (a : AV) : Nat := match a with
  | .inr (.inl _) => 2
  | _ => 1
theorem rs_cat {G : GG} : ∀ (ast : List AV) (st : List Value), rs G st ast → (st.map fun v => v.category).sum = (ast.map cat).sum := by
  intro ast
  induction ast with
  | nil => intro st h; cases rs_nil h; rfl
  | cons a ast ih =>
    intro st h
    obtain ⟨v, st, rfl, h1, h2⟩ := rs_cons h
    rw [List.map_cons, List.map_cons, List.sum_cons, List.sum_cons, ih st h2]
    congr 1
    match a, h1 with
    | .inl x, h1 => obtain ⟨y, rfl, -⟩ := h1; rfl
    | .inr (.inl x), h1 => obtain ⟨y, rfl, -⟩ := h1; rfl
    | .inr (.inr q), h1 => obtain ⟨rfl, -⟩ := h1; rfl
theorem rs_app {G : GG} : ∀ (a1 : List AV) (a2 : List AV) (st : List Value), rs G st (a1 ++ a2) → ∃ s1 s2, st = s1 ++ s2 ∧ rs G s1 a1 ∧ rs G s2 a2 := by
  intro a1
  induction a1 with
  | nil => intro a2 st h; exact ⟨[], st, rfl, trivial, h⟩
  | cons a a1 ih =>
    intro a2 st h
    obtain ⟨v, st, rfl, h1, h2⟩ := rs_cons h
    obtain ⟨s1, s2, rfl, g1, g2⟩ := ih a2 st h2
    exact ⟨v :: s1, s2, rfl, ⟨h1, g1⟩, g2⟩
theorem rs_join {G : GG} : ∀ (s1 : List Value) (a1 : List AV) (s2 : List Value) (a2 : List AV), rs G s1 a1 → rs G s2 a2 → rs G (s1 ++ s2) (a1 ++ a2) := by
  intro s1
  induction s1 with
  | nil =>
    intro a1 s2 a2 h1 h2
    cases a1 with
    | nil => exact h2
    | cons a a1 => exact h1.elim
  | cons v s1 ih =>
    intro a1 s2 a2 h1 h2
    cases a1 with
    | nil => exact h1.elim
    | cons a a1 => exact ⟨h1.1, ih a1 s2 a2 h1.2 h2⟩
theorem rs_rev {G : GG} : ∀ (s1 : List Value) (a1 : List AV), rs G s1 a1 → rs G s1.reverse a1.reverse := by
  intro s1
  induction s1 with
  | nil =>
    intro a1 h
    cases a1 with
    | nil => trivial
    | cons a a1 => exact h.elim
  | cons v s1 ih =>
    intro a1 h
    cases a1 with
    | nil => exact h.elim
    | cons a a1 =>
      rw [List.reverse_cons, List.reverse_cons]
      exact rs_join _ _ _ _ (ih a1 h.2) ⟨h.1, trivial⟩
/-- what a method is: its code among the tables, its parameters -/
def MO (N : MI) (n : Nat) : Prop := Cond.code N.1 N.2.1 N.2.2.1 N.2.2.2.1 ∈ TB ∧ Cond.initialized N.1.cls ∈ TB ∧ (N.1.cls ≠ "java/lang/invoke/MethodHandle" ∧ N.1.cls ≠ "java/lang/invoke/VarHandle" ∧ (parseMethodDescriptor N.1.desc).map (fun d => d.parameters.length) = some n) ∧ plainName N.1.cls = true ∧ N.2.2.1 ≤ 20
def MV (N : MI) (n : Nat) : Prop := MO N n ∧ Cond.instanceMethod N.1 ∈ TB ∧ Cond.selects N.1.cls N.1 N.1 ∈ TB
def MS (N : MI) (n : Nat) : Prop := MO N n ∧ Cond.static N.1 ∈ TB
/-- behind a call -/
def CT (M : MI) (pc : Nat) (als ast : List AV) (Q : Res → St → Prop) : Res → St → Prop := fun r σ' => match r with
  | .inl none => WP M pc als ast σ' Q
  | .inl (some a) => WP M pc als (a :: ast) σ' Q
  | .inr _ => False
theorem good_ws {N : MI} {n : Nat} (h : MO N n) : GoodIn TB (wsOf N) := fun w hw => by
  rcases List.mem_cons.mp hw with rfl | hw
  · exact tb_good _ h.1
  · exact tb_good w hw
theorem sx_calling {G : GG} {A : Nat → Prop} {U : State} {g : JFrame} {mk : MethodId} {a : Array Value} (h : SX G A U) : SX G A (U.calling g mk a) :=
  ⟨⟨vk_S.moved (u := U) (U := U.calling g mk a) (Vm.Alike.refl U.vm) h.1.1, va_Z.moved (u := U) (U := U.calling g mk a) (Vm.Alike.refl U.vm) h.1.2.1, h.1.2.2.imp (fun _ z => ⟨z.1, va_Z.moved (u := U) (U := U.calling g mk a) (Vm.Alike.refl U.vm) z.2⟩)⟩, fun q hq => vk_R.same (u := U) (U := U.calling g mk a) rfl (h.2 q hq)⟩
theorem nw_warm {s U : State} (hW : s.WarmedH U.vm) (h : ∀ w ∈ nwL, va_Nw w s) : ∀ w ∈ nwL, va_Nw w U := by
  intro w hw
  have h1 := h w hw
  simp only [nwL, List.mem_cons, List.not_mem_nil, or_false] at hw
  rcases hw with rfl | rfl | rfl <;> exact va_Nw.warmM hW h1
theorem nw_calling {U : State} {g : JFrame} {mk : MethodId} {a : Array Value} (h : ∀ w ∈ nwL, va_Nw w U) : ∀ w ∈ nwL, va_Nw w (U.calling g mk a) := by
  intro w hw
  have h1 := h w hw
  simp only [nwL, List.mem_cons, List.not_mem_nil, or_false] at hw
  rcases hw with rfl | rfl | rfl <;> exact va_Nw.same (u := U) (U := U.calling g mk a) rfl rfl h1
theorem pc_blind {G : GG} {A : Nat → Prop} {σ : St} {vs : List Value} : FrameBlind (PcOf G A σ vs) := by
  intro a U g mk h
  obtain ⟨h1, h2, h3, h4, h5⟩ := h
  exact ⟨h1, h2, va_K.moved (u := U) (U := U.calling g mk a) (Vm.Alike.refl U.vm) h3, nw_calling h4, sx_calling h5⟩
theorem sx_at {G : GG} {A : Nat → Prop} {s U : State} {H : Heap} {locs : List Loc} (hS : va_S A s.heap H locs) (hU : U.heap = H) (hW : s.WarmedH U.vm) (h : SX G A s) : SX G A U := by
  refine ⟨?_, fun q hq => vk_R.warm hW (h.2 q hq)⟩
  rw [hU]
  exact ⟨vk_S.kept (vk_S.moved hW.alike h.1.1) hS.2.1, va_Z.kept (va_Z.moved hW.alike h.1.2.1) hS.2.1, h.1.2.2.imp (fun _ z => ⟨z.1, va_Z.kept (va_Z.moved hW.alike z.2) hS.2.1⟩)⟩
/-- the call itself, once the machine's part of it stands -/
theorem wp_goes {M N : MI} {pc : Nat} {als ast stk as : List AV} {σ : St} {Q : Res → St → Prop} {G : GG} {A : Nat → Prop} {p : Program} {l : Launch} {e : Env} {R : Room} {s : State} {mid : MethodId} {args : Array Value} {below : List Frame} {meth : Method} {c : Code} {cells slots : Nat} {Z : State → Prop}
    (hC : CX M G A p R s mid args meth c) (hX : SQ M G A s mid ∧ cells ≤ R.cells ∧ slots ≤ R.slots) (hE : EN M G A p l e R s mid args below meth c cells slots Z Q) {H : Heap} {locs : List Loc} {ls : Array Slot} {st rest : List Value} (hW : WD G A σ s H locs) (hl : rl G M.2.2.1 ls als) (hr : rs G rest ast) {aa : Array Value}
    (hrun : va_Run p l e R s mid args below meth c H locs cells slots 0 0 (F0 mid pc ls st) rest (QcOf G A (CT M (pc + 3) als ast Q) aa) A) : W p l e R s mid args below meth c H locs cells slots Z (F0 mid pc ls st) := by
  intro T hT X
  obtain ⟨v, st₀, t, T', L, h0, X', hL, e1, e2, ⟨⟨r, σ', v', hq, hv, ho, hP, hD, hR⟩, hz, hk⟩, go⟩ := hrun T hT X
  cases hv
  rw [h0] at hz hk
  have hS : va_S A s.heap T'.heap (locs ++ L) := by
    refine ⟨Nat.le_trans hW.2.2.1.1 (by rw [e1]; exact hz), fun q h1 h2 => ?_, fun q hq => ?_⟩
    · rw [e1, hk q (Nat.lt_of_lt_of_le h1 hW.2.2.1.1) h2]
      exact hW.2.2.1.2.1 q h1 h2
    · rcases List.mem_append.mp hq with h | h
      · exact hW.2.2.1.2.2 q h
      · exact hL q h
  have hW' : WD G A σ' s T'.heap (locs ++ L) := ⟨by rw [e1]; exact hP, hD, hS, hR, hW.2.2.2.2⟩
  have key : ∃ t2, Steps p.tables e below (T'.setTop { (F0 mid pc ls st) with pc := (F0 mid pc ls st).pc + 3, stack := v.toList ++ rest }) t2 ∧ Z t2 := by
    match r, hq, ho with
    | .inl none, hq, ho =>
      cases (show v = none from ho)
      exact hq G A p l e R s mid args below meth c cells slots Z hC hX hE T'.heap (locs ++ L) ls rest hW' hl hr T' rfl X'
    | .inl (some a), hq, ho =>
      obtain ⟨u, hu, hrv⟩ := ho
      subst hu
      exact hq G A p l e R s mid args below meth c cells slots Z hC hX hE T'.heap (locs ++ L) ls (u :: rest) hW' hl ⟨hrv, hr⟩ T' rfl X'
  obtain ⟨t2, a1, b1⟩ := key
  exact ⟨t2, go t2 a1, b1⟩
theorem ct_nt {M : MI} {pc : Nat} {als ast : List AV} {Q : Res → St → Prop} : ∀ q σ', ¬ CT M pc als ast Q (.inr q) σ' := fun _ _ h => h
section Calls2
variable {M N : MI} {pc : Nat} {als ast stk als1 : List AV} {σ : St} {Q : Res → St → Prop}
theorem wp_invV {idx n c0 i0 ci : Nat} (as : List AV) (hd : decode M.2.1 pc = .ok (.invokevirtual idx, 3)) (hm : Cond.methodLink M.1.cls idx N.1 ∈ TB) (hN : MV N n) (ho : oc c0 = some ci) (hcl : (classes[ci]?).map (fun q => q.1) = some N.1.cls) (hst : stk = as.reverse ++ vR c0 i0 :: ast) (hn : as.length = n) (hen : ent (vR c0 i0 :: as) N.2.2.1 = als1) (hle : (entL (vR c0 i0 :: as)).length ≤ N.2.2.1) (hca : (ast.map cat).sum ≤ 8) (hrk : N.2.2.2.2 < M.2.2.2.2) (hrm : M.2.2.2.2 ≤ 12) (h1 : c0 < 1000)
    (k : WP N 0 als1 [] σ (CT M (pc + 3) als ast Q)) : WP M pc als stk σ Q := by
  intro G A p l e R s mid args below meth c cells slots Z hC hX hE H locs ls st hW hl hs
  subst hst
  obtain ⟨sa, sb, rfl, hsa, hsb⟩ := rs_app _ _ _ hs
  obtain ⟨rest, rfl, hmem, hrest⟩ := rs_R hsb
  have hmem : (c0, i0) ∈ G.2.2.2.1 := hmem.resolve_right (by omega)
  have hargs : rs G (.ref (G.2.2.1 c0 i0) :: sa.reverse) (vR c0 i0 :: as) := ⟨⟨rfl, Or.inl hmem⟩, by have := rs_rev _ _ hsa; rwa [List.reverse_reverse] at this⟩
  subst hen
  have hM := met_of (N := N) (G := G) (A := A) l k ct_nt hN.1.2.2.2.1 hargs hle hW.2.1 hW.2.2.2.1 hW.2.2.2.2 (by omega)
  obtain ⟨k0, hk0, hk1⟩ := ww_at (σ := σ) hmem
  rw [ce_obj ho] at hk1
  obtain ⟨cq, hcq, hcq2⟩ := Option.map_eq_some_iff.mp hcl
  have hrecv := va_recv hC.2.2.2.2.2.2.2.1 hW.1 hcq hk1
  rw [hcq2] at hrecv
  have hts := hC.2.2.2.2.1
  have hroom : (rmOf N).frames + 1 ≤ R.frames ∧ 8 + (N.2.2.1 + 11) + (rmOf N).locals ≤ R.locals := by
    have h9 := hC.2.2.2.2.2.2.2.2.1
    have h10 := hC.2.2.2.2.2.2.2.2.2.1
    have h11 := hN.1.2.2.2.2
    show N.2.2.2.2 + 1 ≤ R.frames ∧ 8 + (N.2.2.1 + 11) + 39 * N.2.2.2.2 ≤ R.locals
    omega
  have hlen : sa.reverse.length = n := by
    rw [List.length_reverse, ← hn]
    have : ∀ (a1 : List AV) (s1 : List Value), rs G s1 a1 → s1.length = a1.length := by
      intro a1
      induction a1 with
      | nil => intro s1 h; cases rs_nil h; rfl
      | cons a a1 ih => intro s1 h; obtain ⟨v, s1, rfl, _, h2⟩ := rs_cons h; rw [List.length_cons, List.length_cons, ih s1 h2]
    rw [this _ _ hsa, List.length_reverse]
  refine wp_goes (N := N) (stk := as.reverse ++ vR c0 i0 :: ast) (as := as) hC hX hE hW hl hrest (va_runV (As := sa.reverse) ⟨hC.1, hC.2.1, hC.2.2.1, hC.2.2.2.1, hts⟩ hM ⟨callB_of n hts (good_ws hN.1) rfl rfl rfl (hts _ hN.1.2.1) (hts _ hm) hN.1.2.2.1 hroom, hts _ hN.2.1, hts _ hN.2.2⟩ ⟨pc_blind, hrecv, fun U hU hWm => ⟨rfl, by rw [hU]; exact hW.1, va_K.moved hWm.alike hC.2.2.2.2.2.2.2.1, nw_warm hWm hC.2.2.2.2.2.2.2.2.2.2.1, sx_at hW.2.2.1 hU hWm hC.2.2.2.2.2.2.2.2.2.2.2⟩⟩ rfl hlen ?_ ?_ ?_ hd ?_)
  · obtain ⟨lv, g1, -⟩ := hl
    exact g1.1
  · show sa ++ _ = sa.reverse.reverse ++ _
    rw [List.reverse_reverse]
  · exact lv_room (by rw [rs_cat ast rest hrest]; exact hca)
  · exact hX.2
theorem rs_len {G : GG} : ∀ (a1 : List AV) (s1 : List Value), rs G s1 a1 → s1.length = a1.length := by
  intro a1
  induction a1 with
  | nil => intro s1 h; cases rs_nil h; rfl
  | cons a a1 ih => intro s1 h; obtain ⟨v, s1, rfl, _, h2⟩ := rs_cons h; rw [List.length_cons, List.length_cons, ih s1 h2]
theorem wp_invS {idx n : Nat} (as : List AV) (hd : decode M.2.1 pc = .ok (.invokestatic idx, 3)) (hm : Cond.methodLink M.1.cls idx N.1 ∈ TB) (hN : MS N n) (hst : stk = as.reverse ++ ast) (hn : as.length = n) (hen : ent as N.2.2.1 = als1) (hle : (entL as).length ≤ N.2.2.1) (hca : (ast.map cat).sum ≤ 8) (hrk : N.2.2.2.2 < M.2.2.2.2) (hrm : M.2.2.2.2 ≤ 12)
    (k : WP N 0 als1 [] σ (CT M (pc + 3) als ast Q)) : WP M pc als stk σ Q := by
  intro G A p l e R s mid args below meth c cells slots Z hC hX hE H locs ls st hW hl hs
  subst hst
  obtain ⟨sa, rest, rfl, hsa, hrest⟩ := rs_app _ _ _ hs
  have hargs : rs G sa.reverse as := by have := rs_rev _ _ hsa; rwa [List.reverse_reverse] at this
  subst hen
  have hM := met_of (N := N) (G := G) (A := A) l k ct_nt hN.1.2.2.2.1 hargs hle hW.2.1 hW.2.2.2.1 hW.2.2.2.2 (by omega)
  have hts := hC.2.2.2.2.1
  have hroom : (rmOf N).frames + 1 ≤ R.frames ∧ 8 + (N.2.2.1 + 11) + (rmOf N).locals ≤ R.locals := by
    have h9 := hC.2.2.2.2.2.2.2.2.1
    have h10 := hC.2.2.2.2.2.2.2.2.2.1
    have h11 := hN.1.2.2.2.2
    show N.2.2.2.2 + 1 ≤ R.frames ∧ 8 + (N.2.2.1 + 11) + 39 * N.2.2.2.2 ≤ R.locals
    omega
  have hlen : sa.reverse.length = n := by
    rw [List.length_reverse, ← hn, rs_len _ _ hsa, List.length_reverse]
  refine wp_goes (N := N) (stk := as.reverse ++ ast) (as := as) hC hX hE hW hl hrest (va_runS (As := sa.reverse) ⟨hC.1, hC.2.1, hC.2.2.1, hC.2.2.2.1, hts⟩ hM ⟨callB_of n hts (good_ws hN.1) rfl rfl rfl (hts _ hN.1.2.1) (hts _ hm) hN.1.2.2.1 hroom, hts _ hN.2⟩ ⟨pc_blind, fun U hU hWm => ⟨rfl, by rw [hU]; exact hW.1, va_K.moved hWm.alike hC.2.2.2.2.2.2.2.1, nw_warm hWm hC.2.2.2.2.2.2.2.2.2.2.1, sx_at hW.2.2.1 hU hWm hC.2.2.2.2.2.2.2.2.2.2.2⟩⟩ rfl hlen ?_ ?_ ?_ hd ?_)
  · obtain ⟨lv, g1, -⟩ := hl
    exact g1.1
  · show sa ++ _ = sa.reverse.reverse ++ _
    rw [List.reverse_reverse]
  · exact lv_room (by rw [rs_cat ast rest hrest]; exact hca)
  · exact hX.2
theorem wp_invN {idx n : Nat} {host : String} (as : List AV) (hd : decode M.2.1 pc = .ok (.invokestatic idx, 3)) (hm : Cond.methodLinkNest M.1.cls idx N.1 host ∈ nwL) (hN : MS N n) (hst : stk = as.reverse ++ ast) (hn : as.length = n) (hen : ent as N.2.2.1 = als1) (hle : (entL as).length ≤ N.2.2.1) (hca : (ast.map cat).sum ≤ 8) (hrk : N.2.2.2.2 < M.2.2.2.2) (hrm : M.2.2.2.2 ≤ 12)
    (k : WP N 0 als1 [] σ (CT M (pc + 3) als ast Q)) : WP M pc als stk σ Q := by
  intro G A p l e R s mid args below meth c cells slots Z hC hX hE H locs ls st hW hl hs
  subst hst
  obtain ⟨sa, rest, rfl, hsa, hrest⟩ := rs_app _ _ _ hs
  have hargs : rs G sa.reverse as := by have := rs_rev _ _ hsa; rwa [List.reverse_reverse] at this
  subst hen
  have hM := met_of (N := N) (G := G) (A := A) l k ct_nt hN.1.2.2.2.1 hargs hle hW.2.1 hW.2.2.2.1 hW.2.2.2.2 (by omega)
  have hts := hC.2.2.2.2.1
  have hroom : (rmOf N).frames + 1 ≤ R.frames ∧ 8 + (N.2.2.1 + 11) + (rmOf N).locals ≤ R.locals := by
    have h9 := hC.2.2.2.2.2.2.2.2.1
    have h10 := hC.2.2.2.2.2.2.2.2.2.1
    have h11 := hN.1.2.2.2.2
    show N.2.2.2.2 + 1 ≤ R.frames ∧ 8 + (N.2.2.1 + 11) + 39 * N.2.2.2.2 ≤ R.locals
    omega
  have hlen : sa.reverse.length = n := by
    rw [List.length_reverse, ← hn, rs_len _ _ hsa, List.length_reverse]
  refine wp_goes (N := N) (stk := as.reverse ++ ast) (as := as) hC hX hE hW hl hrest (va_runSN (As := sa.reverse) (host := host) ⟨hC.1, hC.2.1, hC.2.2.1, hC.2.2.2.1, hts⟩ hM ⟨va_cnB n hts (good_ws hN.1) rfl rfl rfl (hC.2.2.2.2.2.2.2.2.2.2.1 _ hm) (hts _ hN.1.2.1) hN.1.2.2.1 hroom, hts _ hN.2, trivial⟩ ⟨pc_blind, fun U hU hWm => ⟨rfl, by rw [hU]; exact hW.1, va_K.moved hWm.alike hC.2.2.2.2.2.2.2.1, nw_warm hWm hC.2.2.2.2.2.2.2.2.2.2.1, sx_at hW.2.2.1 hU hWm hC.2.2.2.2.2.2.2.2.2.2.2⟩⟩ rfl hlen ?_ ?_ ?_ hd ?_)
  · obtain ⟨lv, g1, -⟩ := hl
    exact g1.1
  · show sa ++ _ = sa.reverse.reverse ++ _
    rw [List.reverse_reverse]
  · exact lv_room (by rw [rs_cat ast rest hrest]; exact hca)
  · exact hX.2
/-- fewer locals known -/
def lle : List AV → List AV → Prop
  | [], _ => True
  | a :: as, b :: bs => (a = b ∨ a = vU) ∧ lle as bs
  | _ :: _, [] => False
theorem lle_at : ∀ (as bs : List AV), lle as bs → ∀ (i : Nat) (a : AV), as[i]? = some a → a ≠ vU → bs[i]? = some a := by
  intro as
  induction as with
  | nil => intro bs _ i a h; simp at h
  | cons x as ih =>
    intro bs h i a hi ha
    cases bs with
    | nil => exact h.elim
    | cons y bs =>
      cases i with
      | zero =>
        simp only [List.getElem?_cons_zero, Option.some.injEq] at hi ⊢
        subst hi
        rcases h.1 with e | e
        · exact e.symm
        · exact absurd e ha
      | succ i => simpa using ih bs h.2 i a (by simpa using hi) ha
theorem wp_drop {als' : List AV} (h : lle als' als) (k : WP M pc als' ast σ Q) : WP M pc als ast σ Q := by
  intro G A p l e R s mid args below meth c cells slots Z hC hX hE H locs ls st hW hl hs
  refine k G A p l e R s mid args below meth c cells slots Z hC hX hE H locs ls st hW ?_ hs
  obtain ⟨lv, h1, h2⟩ := hl
  exact ⟨lv, h1, fun i a hi ha => h2 i a (lle_at _ _ h i a hi ha) ha⟩
/-- a stretch of an array copied -/
def upR (σ : St) (c1 i1 : Nat) (d n : Nat) (f : Nat → Int) : St := fun c i j => if c = c1 ∧ i = i1 ∧ d ≤ j ∧ j < d + n then f (j - d) else σ c i j
theorem ce_upR_ne {G : GG} {σ : St} {c i d n : Nat} {f : Nat → Int} (q' : Nat × Nat) (h : q' ≠ (c, i)) : ce G (upR σ c i d n f) q' = ce G σ q' := by
  have e : ∀ k, upR σ c i d n f q'.1 q'.2 k = σ q'.1 q'.2 k := by
    intro k
    unfold upR
    rw [if_neg]
    rintro ⟨h1, h2, -⟩
    exact h (Prod.ext h1 h2)
  unfold ce
  have e1 : (fv G (upR σ c i d n f) q'.1 q'.2) = (fv G σ q'.1 q'.2) := by
    funext k
    unfold fv
    rw [e k]
  rw [e1]
  simp only [e]
theorem wp_copy {idx c0 i0 c1 i1 : Nat} {sp dp n : Int} (hd : decode M.2.1 pc = .ok (.invokestatic idx, 3)) (hm : Cond.methodLink M.1.cls idx arraycopyName ∈ TB) (hnat : Cond.native arraycopyName ∈ TB) (hstat : Cond.static arraycopyName ∈ TB) (hini : Cond.initialized "java/lang/System" ∈ TB) (ho : oc c0 = none) (hk : ak c0 = 0) (ho1 : oc c1 = none) (hk1 : ak c1 = 0) (g0 : c0 < 1000) (g1 : c1 < 1000) (hca : (ast.map cat).sum ≤ 8) (hrk : 1 ≤ M.2.2.2.2)
    (h1 : 0 ≤ sp) (h2 : 0 ≤ dp) (h3 : 0 ≤ n) (h4 : sp + n ≤ (al c0 : Int)) (h5 : dp + n ≤ (al c1 : Int)) (k : WP M (pc + 3) als ast (upR σ c1 i1 dp.toNat n.toNat (fun j => σ c0 i0 (sp.toNat + j))) Q) : WP M pc als (vI n :: vI dp :: vR c1 i1 :: vI sp :: vR c0 i0 :: ast) σ Q := by
  intro G A p l e R s mid args below meth c cells slots Z hC hX hE H locs ls st hW hl hs
  obtain ⟨yn, st1, rfl, rfl, hs1⟩ := rs_I hs
  obtain ⟨yd, st2, rfl, rfl, hs2⟩ := rs_I hs1
  obtain ⟨st3, rfl, m1, hs3⟩ := rs_R hs2
  obtain ⟨ys, st4, rfl, rfl, hs4⟩ := rs_I hs3
  obtain ⟨st5, rfl, m0, hs5⟩ := rs_R hs4
  have m1 : (c1, i1) ∈ G.2.2.2.1 := m1.resolve_right (by omega)
  have m0 : (c0, i0) ∈ G.2.2.2.1 := m0.resolve_right (by omega)
  obtain ⟨k0, hk0, hq0⟩ := ww_at (σ := σ) m0
  obtain ⟨k1, hk1', hq1⟩ := ww_at (σ := σ) m1
  rw [ce_arr ho, hk] at hq0
  rw [ce_arr ho1, hk1] at hq1
  have ng : ∀ y : Int32, 0 ≤ y.toInt → ¬ y < 0 := fun y h q => by
    have := i32_lt.mp q
    simp at this
    omega
  have hts := hC.2.2.2.2.1
  obtain ⟨lv, gl, -⟩ := id hl
  have hrl := hC.2.2.2.2.2.2.2.2.2.1
  have hrf := hC.2.2.2.2.2.2.2.2.1
  refine va_copyi hC.1 hC.2.1 (hC.2.2.1.trans gl.1.symm) hC.2.2.2.1 (hts _ hm) (hts _ hnat) (hts _ hstat) (hts _ hini) hC.2.2.2.2.2.2.2.1 hW.1 hW.2.1 hW.2.2.1 k0 k1 0 0 hq0 hq1 rfl rfl rfl (ng _ h1) (ng _ h2) (ng _ h3) (by rw [clamp_e, clamp_e]; omega) (by rw [clamp_e, clamp_e]; omega) (fun _ _ => rfl) (by omega) ?_ hd (fun H1 locs1 hP1 hD1 hS1 => ?_)
  · rw [rs_cat ast st5 hs5]
    have : nativeFrameWords "java/lang/System" "arraycopy" 5 ≤ 20 := by decide
    omega
  · have ew : (ww G σ).set k1 (G.2.2.1 c1 i1, .inl (G.2.1 0, al c1, .inl (va_cpy (fun j => Int32.ofInt (σ c0 i0 j)) (fun j => Int32.ofInt (σ c1 i1 j)) ys.toNatClampNeg yd.toNatClampNeg yn.toNatClampNeg))) = ww G (upR σ c1 i1 yd.toInt.toNat yn.toInt.toNat (fun j => σ c0 i0 (ys.toInt.toNat + j))) := by
      have e2 : (va_cpy (fun j => Int32.ofInt (σ c0 i0 j)) (fun j => Int32.ofInt (σ c1 i1 j)) ys.toNatClampNeg yd.toNatClampNeg yn.toNatClampNeg) = fun j => Int32.ofInt (upR σ c1 i1 yd.toInt.toNat yn.toInt.toNat (fun j => σ c0 i0 (ys.toInt.toNat + j)) c1 i1 j) := by
        funext j
        rw [clamp_e, clamp_e, clamp_e]
        unfold va_cpy upR
        by_cases hj : yd.toInt.toNat ≤ j ∧ j < yd.toInt.toNat + yn.toInt.toNat
        · rw [if_pos hj, if_pos ⟨rfl, rfl, hj.1, hj.2⟩]
        · rw [if_neg hj, if_neg (fun q => hj q.2.2)]
      rw [e2, ← hk1, ← ce_arr (G := G) (σ := upR σ c1 i1 yd.toInt.toNat yn.toInt.toNat (fun j => σ c0 i0 (ys.toInt.toNat + j))) (i := i1) ho1]
      exact ww_set hW.2.1 hk1' (fun q' h => ce_upR_ne q' h)
    rw [ew] at hP1 hD1
    have hR : RO (upR σ c1 i1 yd.toInt.toNat yn.toInt.toNat (fun j => σ c0 i0 (ys.toInt.toNat + j))) := by
      intro c' i' k'
      unfold upR
      split
      · rename_i hh
        have := (hW.2.2.2.1 c0 i0 (ys.toInt.toNat + (k' - yd.toInt.toNat))).2 (lg_arr ho g0)
        exact ⟨in64_32 this, fun _ => this⟩
      · exact hW.2.2.2.1 c' i' k'
    exact k G A p l e R s mid args below meth c cells slots Z hC hX hE H1 locs1 ls _ ⟨hP1, hD1, hS1, hR, hW.2.2.2.2⟩ hl hs5
end Calls2
