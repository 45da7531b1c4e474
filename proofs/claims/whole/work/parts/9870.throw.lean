/-! ===== throwing: athrow, calls that may throw, the catch ===== -/
def FrE (first : State) (t : State) (L : List Loc) : Prop := first.WarmedH t.vm ∧ first.sameButNew ({ t with vm := first.vm } : State) L 0 0
def MetT (l : Launch) (y : MethodName) (ws : List Cond) (rm : Room) (Pc : Array Value → State → Prop) (Qc : Array Value → State → Outcome → State → Prop) (free : Addr → Prop) : Prop :=
  MetFree l y (headSpec ws rm) Pc (fun _ _ _ _ _ => True) (fun a st o t => Qc a st o t ∧ ∃ L, FrE st t L ∧ ∀ q ∈ L, free q.base)
def MQT (below : List Frame) (Qc : Array Value → State → Outcome → State → Prop) (a : Array Value) (s : State) (free : Addr → Prop) : State → Prop := fun t =>
  ∃ o, t.status = .running ∧ Ended t below o ∧ Qc a s o t ∧ ∃ L, FrE s t L ∧ ∀ q ∈ L, free q.base
section Throw
variable {p : Program} {l : Launch} {e : Env} {R : Room} {s : State} {m : MethodId} {args : Array Value} {below : List Frame} {meth : Method} {c : Code} {T : State} {H : Heap} {locs : List Loc} {cells slots : Nat}
theorem W.mp {Q Q' : State → Prop} {g : JFrame} (h : W p l e R s m args below meth c H locs cells slots Q g) (hq : ∀ t, Q t → Q' t) : W p l e R s m args below meth c H locs cells slots Q' g := by
  intro T hT X
  obtain ⟨t, h1, h2⟩ := h T hT X
  exact ⟨t, h1, hq t h2⟩
theorem MQ.t {Qc : Array Value → State → Outcome → State → Prop} {a : Array Value} {free : Addr → Prop} (t : State) (h : MQ below Qc a s 0 0 free t) : MQT below Qc a s free t := by
  obtain ⟨o, h1, h2, h3, L, ⟨-, h4, h5⟩, h6⟩ := h
  exact ⟨o, h1, h2, h3, L, ⟨h4, h5⟩, h6⟩
theorem MetT.ofW {y : MethodName} {ws ws' : List Cond} {rm : Room} {Pc : Array Value → State → Prop} {Qc : Array Value → State → Outcome → State → Prop} {free : Addr → Prop} {cc : ByteArray} {maxL : Nat} {ret : Option FieldType} {hh : List (Nat × Nat × Nat × Nat)}
    (hy : plainName y.cls = true) (hw : ws = Cond.codeWith y cc maxL ret hh :: ws')
    (body : ∀ p e s m args below meth c s₁, BodyLoose p l y (headSpec ws rm) cc maxL ret e s m args below meth c s₁ → c.maxLocals = maxL → Pc args s →
      W p l e (headSpec ws rm).room s m args below meth c s.heap [] 0 0 (MQT below Qc args s free) (entryFrame m args maxL)) : MetT l y ws rm Pc Qc free := by
  refine MetFree.of_bodyS (code := cc) (maxLocals := maxL) (ret := ret) hy ?_ ?_
  · intro args s m h hn
    obtain ⟨m9, meth, c, hn9, h1, h2, h3, h4, -, h5, h6, -⟩ := Cond.codeWith_spec (atoms_spec (ws := ws) h _ (by rw [hw]; exact List.mem_cons_self))
    cases hn.symm.trans hn9
    exact ⟨meth, c, h1, h2, h3, h4, h5, h6⟩
  · intro p e s m args below meth c s₁ B hml hP _
    have hh0 : s₁.heap = s.heap := by rw [B.state]; rfl
    obtain ⟨t, a1, o, b1, b2, b3⟩ := body p e s m args below meth c s₁ B hml hP s₁ hh0 (Stand.of_body B)
    exact ⟨t, o, a1, b1, b2, ⟨b3.1, b3.2⟩⟩
/-- a call that returns or throws -/
theorem callVT (X : Stand p l e R s m args below meth c T locs cells slots) (hexec : p.tables.exec = Jvm.exec) {own C : String} {index : Nat} {y : MethodName} {bytes : ByteArray} {maxL : Nat} {ret : Option FieldType} {hh : List (Nat × Nat × Nat × Nat)}
    {ws : List Cond} {rm : Room} {Pc : Array Value → State → Prop} {Qc : Array Value → State → Outcome → State → Prop} {free : Addr → Prop}
    (hM : MetT l y ws rm Pc Qc free) (hblind : FrameBlind Pc) (hrc : rm.cells = 0) (hrs : rm.slots = 0) (hfr : rm.frames + 1 ≤ R.frames) (hlo : 8 + (maxL + 11) + rm.locals ≤ R.locals)
    (hws : ∀ w ∈ ws, ∀ (a' : Array Value) (U : State), s.WarmedH U.vm → w.before a' U = true) (hcode : (Cond.codeWith y bytes maxL ret hh).before args s = true) (hcw : ∀ (a' : Array Value) (U : State), s.WarmedH U.vm → (Cond.codeWith y bytes maxL ret hh).before a' U = true) (hini : ∀ (a' : Array Value) (U : State), s.WarmedH U.vm → (Cond.initialized y.cls).before a' U = true)
    (hown : s.vm.findClass own = some m.cls) (hlink : (Cond.methodLink own index y).before args s = true) (hinst : (Cond.instanceMethod y).before args s = true) (hsel : (Cond.selects C y y).before args s = true)
    (hy : y.cls ≠ "java/lang/invoke/MethodHandle" ∧ y.cls ≠ "java/lang/invoke/VarHandle")
    {b : Addr} {cellB : Cell} (hcell : T.heap[b]? = some cellB) (hobj : cellB.vm.isStatics = false) (hcls : s.vm.findClass C = some cellB.cls)
    {g : JFrame} (hg : g.method = m) (hsize : g.locals.size = c.maxLocals) {argsL rest : List Value} (hlen : ∀ sig, parseMethodDescriptor y.desc = some sig → argsL.length = sig.parameters.length)
    (hstack : g.stack = argsL.reverse ++ .ref b :: rest) (hW : 2 * g.monitorRoom + (rest.map fun v => v.category).sum ≤ 8) (hdg : decode c.code g.pc = .ok (.invokevirtual index, 3)) (hcells : cells ≤ R.cells) (hslots : slots ≤ R.slots)
    (hpre : ∀ vm₁, s.WarmedH vm₁ → Pc (Value.ref b :: argsL).toArray (T.setVm vm₁)) :
    ∃ (o : Outcome) (st₀ t T' : State) (L : List Loc), st₀.heap = T.heap ∧ Stand p l e R s m args below meth c T' (locs ++ L) cells slots ∧ (∀ q ∈ L, free q.base) ∧ T'.heap = t.heap ∧ T'.vm = t.vm ∧ Qc (Value.ref b :: argsL).toArray st₀ o t ∧
      (∀ v, o = .returned v → ∀ target, Steps p.tables e below (T'.setTop { g with pc := g.pc + 3, stack := v.toList ++ rest }) target → Steps p.tables e below (T.setTop g) target) ∧
      (∀ x, o = .threw x → ∀ target, Steps p.tables e below ((T'.setTop { g with stack := rest }).pushFrame (.throwing x)) target → Steps p.tables e below (T.setTop g) target) := by
  subst hg
  obtain ⟨mk, methM, hnamed, hmethM, hstM, habM⟩ := Cond.instanceMethod_spec hinst
  obtain ⟨m9, methM', cM, hn9, hmethM', -, -, -, -, -, -, hsigM⟩ := Cond.codeWith_spec hcode
  cases hnamed.symm.trans hn9
  cases hmethM.symm.trans hmethM'
  obtain ⟨c2, r2, m2, q1, q2, q3, q4, kP, hkP, hkPi⟩ := Cond.selects_spec hsel
  cases hcls.symm.trans q1
  cases (State.methodFound?_of_named hnamed hy).symm.trans q2
  cases hnamed.symm.trans q3
  have hselP : selectMethod e.platform s.vm cellB.cls mk = .method mk := by rw [Launch.admits_selectMethod X.admits]; exact q4
  obtain ⟨vm₁, X₁, hstep₁⟩ := X.invokevirtual hexec hown hlink hnamed hmethM hstM hkP hkPi hy (a := b) (cell := cellB) hcell
    (fun z h => by rw [h] at hobj; cases hobj) hselP hmethM habM hkP hkPi (g := g) rfl (argsL := argsL) (rest := rest) (hlen _ hsigM) hstack hdg
  have hheap : (T.setVm vm₁).heap = T.heap := rfl
  have hpre1 := hpre vm₁ X₁.warmed
  generalize T.setVm vm₁ = U at X₁ hstep₁ hheap hpre1
  generalize hg' : ({ g with stack := rest } : JFrame) = g' at hstep₁
  have egm : g'.method = g.method := by rw [← hg']
  have egp : g'.pc = g.pc := by rw [← hg']
  have egl : g'.locals = g.locals := by rw [← hg']
  have egs : g'.stack = rest := by rw [← hg']
  have egr : g'.monitorRoom = g.monitorRoom := by rw [← hg']
  have hn : U.methodNamed? y = some mk := X₁.named hnamed
  obtain ⟨m8, methY, cY, hn8, hmY, hcY, -, hlY, -⟩ := Cond.codeWith_spec (hcw (Value.ref b :: argsL).toArray U X₁.warmed)
  cases hn.symm.trans hn8
  obtain ⟨kY, hkY, -⟩ := className_of_methodNamed hn
  have hinitY : kY.init = .initialized := Cond.initialized_spec (findClass_of_methodNamed hn) hkY (hini (Value.ref b :: argsL).toArray U X₁.warmed)
  have h : At U g'.method c below := by rw [egm]; exact X₁.here
  have happ : (headSpec ws rm).appliesLoose y e.platform (U.calling g' mk (Value.ref b :: argsL).toArray) = true :=
    Spec.appliesLoose_calling (g := g') h (by rw [egp]; exact hdg) hn hkY hinitY
      (X₁.room_calling (g := g') (R' := rm) (by rw [egl]; exact hsize) hmY hcY hfr (by rw [hlY, egr, egs]; omega) (by rw [hrc]; exact hcells) (by rw [hrs]; exact hslots)) (atoms_intro fun w hw => hws w hw _ _ X₁.warmed)
  obtain ⟨mid, hmid⟩ := h.above
  have hfr' : (U.setTop g').frames = (.java g' :: mid) ++ below := by rw [State.frames_setTop' g' h.top, hmid]; rfl
  obtain ⟨o, s₂, hsteps, -, hend, hq⟩ := Steps.callFree hM p X₁.admits X₁.cas X₁.clock (acts := []) hfr' happ (hblind _ _ _ _ hpre1) trivial
  have hq' : Qc (Value.ref b :: argsL).toArray (U.calling g' mk (Value.ref b :: argsL).toArray) o s₂ ∧ ∃ L, FrE (U.calling g' mk (Value.ref b :: argsL).toArray) s₂ L ∧ ∀ q ∈ L, free q.base := hq
  rw [State.frames_setTop' g' h.top] at hend
  obtain ⟨hqc, L, ⟨hW₂, e2, q2, q3, q4, q5, q6⟩, hL⟩ := hq'
  have e3 : s₂ = ({ (U.calling g' mk (Value.ref b :: argsL).toArray).setFrames s₂.frames with heap := s₂.heap, slotsUsed := s₂.slotsUsed } : State).setVm s₂.vm := by
    have : s₂ = ({ s₂ with vm := (U.calling g' mk (Value.ref b :: argsL).toArray).vm } : State).setVm s₂.vm := rfl
    rw [e2] at this
    exact this
  have hW' : U.WarmedH s₂.vm := hW₂
  obtain ⟨g₀, hg0⟩ := Option.isSome_iff_exists.mp h.top
  obtain ⟨r, hr⟩ := State.topJava?_eq_some.mp hg0
  have hsame : U.sameButNew ({ U with heap := s₂.heap, slotsUsed := s₂.slotsUsed } : State) L 0 0 := by
    refine ⟨?_, q2, q3, q4, q5, q6⟩
    obtain ⟨t, ht, -⟩ := State.frames_cons hr
    show ({ U with heap := s₂.heap, slotsUsed := s₂.slotsUsed } : State) = { U.setFrames U.frames with heap := s₂.heap, slotsUsed := s₂.slotsUsed }
    rw [State.setFrames_self ht]
  have X' : Stand p l e R s g.method args below meth c (({ U with heap := s₂.heap, slotsUsed := s₂.slotsUsed } : State).setVm s₂.vm) (locs ++ L) cells slots :=
    ⟨X₁.admits, X₁.cas, X₁.clock, X₁.frames, X₁.room, X₁.hears, X₁.method, X₁.code, (X₁.here.setHeapUsed s₂.heap s₂.slotsUsed).setVm hW'.alike, X₁.tail, State.WarmedH.trans X₁.warmed hW', X₁.limits, X₁.bytes, X₁.same.trans (hsame.setVm s.vm)⟩
  refine ⟨o, U.calling g' mk (Value.ref b :: argsL).toArray, s₂, _, L, hheap, X', hL, rfl, rfl, hqc, fun v hv target ht => ?_, fun x hx target ht => ?_⟩
  · subst hv
    obtain ⟨c₂, i₂, len₂, hc₂, hd₂, hf₂⟩ := hend
    have hcc : c₂ = c := by
      have h1 : s₂.code? g'.method = U.code? g'.method := by
        rw [State.code?_eq, State.code?_eq, hW'.alike.method?]
      exact Option.some.inj (hc₂.symm.trans (h1.trans h.code))
    subst hcc
    have hlen : len₂ = 3 := by rw [egp, hdg] at hd₂; cases hd₂; rfl
    subst hlen
    have hs₂ : s₂ = (({ U with heap := s₂.heap, slotsUsed := s₂.slotsUsed } : State).setVm s₂.vm).setTop { g' with pc := g'.pc + 3, stack := v.toList ++ g'.stack } := by
      have hr' : (({ U with heap := s₂.heap, slotsUsed := s₂.slotsUsed } : State).setVm s₂.vm).frames = .java g₀ :: r := hr
      refine e3.trans ?_
      rw [hf₂, State.calling_eq h.top, State.setFrames_setFrames, State.setTop_of_frames _ hr', hr]
      rfl
    refine hstep₁ _ fun acts => ?_
    rw [doInvoke_state]
    refine Steps.trans hsteps ?_
    rw [hs₂]
    subst hg'
    exact ht
  · subst hx
    have hf₂ : s₂.frames = .throwing x :: .java g' :: U.frames.tail := hend
    have hs₂ : s₂ = ((({ U with heap := s₂.heap, slotsUsed := s₂.slotsUsed } : State).setVm s₂.vm).setTop g').pushFrame (.throwing x) := by
      have hr' : (({ U with heap := s₂.heap, slotsUsed := s₂.slotsUsed } : State).setVm s₂.vm).frames = .java g₀ :: r := hr
      refine e3.trans ?_
      rw [hf₂, State.calling_eq h.top, State.setFrames_setFrames, State.pushFrame, State.frames_setTop _ hr', State.setTop_of_frames _ hr', State.setFrames_setFrames, hr]
      rfl
    refine hstep₁ _ fun acts => ?_
    rw [doInvoke_state]
    refine Steps.trans hsteps ?_
    rw [hs₂]
    subst hg'
    exact ht
end Throw
/-! in the abstract heap -/
abbrev wsG (N : MI) (hh : List (Nat × Nat × Nat × Nat)) : List Cond := Cond.codeWith N.1 N.2.1 N.2.2.1 N.2.2.2.1 hh :: TB
def oG (G : GG) (o : Outcome) (r : Res) : Prop := match r with
  | .inl none => o = .returned none
  | .inl (some a) => ∃ u, o = .returned (some u) ∧ rv G u a
  | .inr q => o = .threw (G.2.2.1 q.1 q.2) ∧ q ∈ G.2.2.2.1
def QcG (G : GG) (A : Nat → Prop) (Q : Res → St → Prop) : Array Value → State → Outcome → State → Prop := fun _ st o t =>
  (∃ (r : Res) (σ' : St), Q r σ' ∧ oG G o r ∧ va_P G.1 classes (ww G σ') t.heap ∧ va_D A (ww G σ') ∧ RO σ') ∧ va_F A st t
theorem metG_of {N : MI} {as : List AV} {vs : List Value} {σ : St} {Q : Res → St → Prop} {G : GG} {A : Nat → Prop} (hh : List (Nat × Nat × Nat × Nat)) (l : Launch) (h : WP N 0 (ent as N.2.2.1) [] σ Q) (hpl : plainName N.1.cls = true) (hs : rs G vs as) (hlen : (entL as).length ≤ N.2.2.1) (hD : va_D A (ww G σ)) (hR : RO σ) (hCD : CD G) (hrk : N.2.2.2.2 ≠ 12) :
    MetT l N.1 (wsG N hh) (rmOf N) (PcOf G A σ vs) (QcG G A Q) A := by
  refine MetT.ofW (cc := N.2.1) (maxL := N.2.2.1) (ret := N.2.2.2.1) (hh := hh) hpl rfl ?_
  intro p e s m args below meth c s₁ B hml hv
  obtain ⟨rfl, hP, hK, hN, hSX⟩ := hv
  have hts : ∀ w ∈ wsG N hh, w.before vs.toArray s = true := atoms_spec (ws := wsG N hh) B.pre
  have hC : CX N G A p (rmOf N) s m vs.toArray meth c := ⟨B.exec, B.bytes, hml, findClass_of_methodNamed B.named, fun w hw => hts w (List.mem_cons_of_mem _ hw), B.notSynchronized, B.returns, hK, Nat.le_refl _, Nat.le_refl _, hN, hSX⟩
  rw [lg_entry_eq]
  refine h G A p l e (rmOf N) s m vs.toArray below meth c 0 0 _ hC ⟨⟨fun q => absurd q hrk, fun _ => B.named⟩, Nat.le_refl _, Nat.le_refl _⟩ ⟨?_, ?_, ?_, ?_⟩ s.heap [] _ [] ⟨hP, hD, va_S.rf, hR, hCD⟩ (rl_ent hs hlen) trivial
  · intro H locs σ' pc ls y hW hd hQ hty
    have hq : ∀ t : State, t.heap = H → s.WarmedH t.vm → QcG G A Q vs.toArray s (.returned (some (.int y))) t := fun t ht _ => ⟨⟨_, σ', hQ, ⟨_, rfl, y, rfl, rfl⟩, by rw [ht]; exact hW.1, hW.2.1, hW.2.2.2.1⟩, hW.2.2.1.F ht⟩
    rcases hty with hty | ⟨hty, hy⟩
    · exact W.mp (W.iret B.exec B.bytes (by rw [B.returns, hty]) hq hW.2.2.1.2.2 hd B.notSynchronized) MQ.t
    · exact W.mp (W.zret B.exec B.bytes (by rw [B.returns, hty]) (by rcases hy with rfl | rfl <;> rfl) hq hW.2.2.1.2.2 hd B.notSynchronized) MQ.t
  · intro H locs σ' pc ls hW hd hQ hty
    exact W.mp (W.vret B.exec B.bytes (by rw [B.returns, hty]) (fun t ht _ => ⟨⟨_, σ', hQ, rfl, by rw [ht]; exact hW.1, hW.2.1, hW.2.2.2.1⟩, hW.2.2.1.F ht⟩) hW.2.2.1.2.2 hd B.notSynchronized) MQ.t
  · intro H locs σ' pc ls q hW hq hd hQ hty
    obtain ⟨n, hty⟩ := hty
    exact W.mp (W.aret B.exec B.bytes (by rw [B.returns, hty]) (Or.inl ⟨n, rfl⟩) (Or.inr ⟨_, rfl⟩) (fun t ht _ => ⟨⟨_, σ', hQ, ⟨_, rfl, rfl, Or.inl hq⟩, by rw [ht]; exact hW.1, hW.2.1, hW.2.2.2.1⟩, hW.2.2.1.F ht⟩) hW.2.2.1.2.2 hd B.notSynchronized) MQ.t
  · intro T H locs σ' pc ls st q hT X hW hq hQ hout
    obtain ⟨h1, h2, h3, h4, h5⟩ := X.leaveThrown (G.2.2.1 q.1 q.2) (g := F0 m pc ls st) rfl rfl rfl hout B.notSynchronized
    exact ⟨_, h1, .threw (G.2.2.1 q.1 q.2), h2, h3, ⟨⟨.inr q, σ', hQ, ⟨rfl, hq⟩, by show va_P G.1 classes (ww G σ') T.heap; rw [hT]; exact hW.1, hW.2.1, hW.2.2.2.1⟩, hW.2.2.1.F (t := T.setFrames (.throwing (G.2.2.1 q.1 q.2) :: below)) hT⟩, locs, ⟨h4, h5⟩, hW.2.2.1.2.2⟩
/-- behind a call that may throw -/
def CTT (M : MI) (pc : Nat) (als ast : List AV) (Q : Res → St → Prop) : Res → St → Prop := fun r σ' => match r with
  | .inl none => WP M pc als ast σ' Q
  | .inl (some a) => WP M pc als (a :: ast) σ' Q
  | .inr q => Q (.inr q) σ'
/-- a method without handlers: nothing is caught in its frame -/
theorem no_hand {M : MI} {p : Program} {l : Launch} {e : Env} {R : Room} {s : State} {mid : MethodId} {args : Array Value} {below : List Frame} {meth : Method} {c : Code} {T : State} {locs : List Loc} {cells slots : Nat}
    (X : Stand p l e R s mid args below meth c T locs cells slots) (hn : s.methodNamed? M.1 = some mid) (hcode : (Cond.code M.1 M.2.1 M.2.2.1 M.2.2.2.1).before args s = true) (pc : Nat) : ∀ x ∈ c.exceptionTable.toList, covers x pc = false := by
  obtain ⟨meth', c', hm', hc', -, -, -, -, hempty, -⟩ := Cond.code_spec hn hcode
  cases X.method.symm.trans hm'
  cases X.code.symm.trans hc'
  have h0 : c.exceptionTable.size = 0 := by simpa [Array.isEmpty] using hempty
  have h1 : c.exceptionTable.toList = [] := List.eq_nil_of_length_eq_zero (by simpa using h0)
  intro y hy
  rw [h1] at hy
  cases hy
section Throw2
variable {M N : MI} {pc : Nat} {als ast stk als1 : List AV} {σ : St} {Q : Res → St → Prop}
theorem wp_athrow (hM : Cond.code M.1 M.2.1 M.2.2.1 M.2.2.2.1 ∈ TB) (hrm : M.2.2.2.2 ≠ 12) (hd : decode M.2.1 pc = .ok (.athrow, 1)) (h : Q (.inr (13, 0)) σ) : WP M pc als (vR 13 0 :: ast) σ Q := by
  intro G A p l e R s mid args below meth c cells slots Z hC hX hE H locs ls st hW hl hs
  obtain ⟨rest, rfl, hm, hs1⟩ := rs_R hs
  have hm : (13, 0) ∈ G.2.2.2.1 := hm.resolve_right (by omega)
  intro T hT X
  obtain ⟨t, h1, h2⟩ := hE.2.2.2 T H locs σ pc ls rest (13, 0) hT X hW hm h (no_hand X (hX.1.2 hrm) (hC.2.2.2.2.1 _ hM) pc)
  refine ⟨t, ?_, h2⟩
  jvm_step X.here [hC.1, hC.2.1, hd, athrow.wp_sem]
  exact h1
theorem wp_goesT {G : GG} {A : Nat → Prop} {p : Program} {l : Launch} {e : Env} {R : Room} {s : State} {mid : MethodId} {args : Array Value} {below : List Frame} {meth : Method} {c : Code} {cells slots : Nat} {Z : State → Prop}
    (hC : CX M G A p R s mid args meth c) (hX : SQ M G A s mid ∧ cells ≤ R.cells ∧ slots ≤ R.slots) (hE : EN M G A p l e R s mid args below meth c cells slots Z Q) {H : Heap} {locs : List Loc} {ls : Array Slot} {rest : List Value} (hW : WD G A σ s H locs) (hl : rl G M.2.2.1 ls als) (hr : rs G rest ast)
    {st₀ t T' : State} {L : List Loc} {r : Res} {σ' : St} {o : Outcome} (h0 : st₀.heap = H) (X' : Stand p l e R s mid args below meth c T' (locs ++ L) cells slots) (hL : ∀ q ∈ L, A q.base) (e1 : T'.heap = t.heap) (hP : va_P G.1 classes (ww G σ') t.heap) (hD : va_D A (ww G σ')) (hR : RO σ') (hF : va_F A st₀ t) :
    WD G A σ' s T'.heap (locs ++ L) := by
  obtain ⟨hz, hk⟩ := hF
  rw [h0] at hz hk
  refine ⟨by rw [e1]; exact hP, hD, ⟨Nat.le_trans hW.2.2.1.1 (by rw [e1]; exact hz), fun q h1 h2 => ?_, fun q hq => ?_⟩, hR, hW.2.2.2.2⟩
  · rw [e1, hk q (Nat.lt_of_lt_of_le h1 hW.2.2.1.1) h2]
    exact hW.2.2.1.2.1 q h1 h2
  · rcases List.mem_append.mp hq with h | h
    · exact hW.2.2.1.2.2 q h
    · exact hL q h
theorem cw_tb {s : State} {args : Array Value} {N : MI} (hts : ∀ w ∈ TB, w.before args s = true) (h : Cond.code N.1 N.2.1 N.2.2.1 N.2.2.2.1 ∈ TB) : ∀ (a' : Array Value) (U : State), s.WarmedH U.vm → (Cond.codeWith N.1 N.2.1 N.2.2.1 N.2.2.2.1 []).before a' U = true := by
  intro a' U hW
  have h1 : (Cond.code N.1 N.2.1 N.2.2.1 N.2.2.2.1).before a' U = true := word_at hW (tb_good _ h).2 (hts _ h)
  simp only [Cond.before, Cond.holds] at h1 ⊢
  rw [← Cond.code_iff_codeWith_nil]
  exact h1
/-- the callee's words, with its handlers -/
def NW (N : MI) (hh : List (Nat × Nat × Nat × Nat)) (s : State) (args : Array Value) : Prop := (Cond.codeWith N.1 N.2.1 N.2.2.1 N.2.2.2.1 hh).before args s = true ∧ ∀ (a' : Array Value) (U : State), s.WarmedH U.vm → (Cond.codeWith N.1 N.2.1 N.2.2.1 N.2.2.2.1 hh).before a' U = true
theorem NW.c {s : State} {args : Array Value} {N : MI} (hts : ∀ w ∈ TB, w.before args s = true) (h : Cond.code N.1 N.2.1 N.2.2.1 N.2.2.2.1 ∈ TB) : NW N [] s args := by
  refine ⟨?_, cw_tb hts h⟩
  have h1 := hts _ h
  simp only [Cond.before, Cond.holds] at h1 ⊢
  rw [← Cond.code_iff_codeWith_nil]
  exact h1
theorem NW.w {s : State} {args : Array Value} {N : MI} {hh : List (Nat × Nat × Nat × Nat)} (hts : ∀ w ∈ TB, w.before args s = true) (h : Cond.codeWith N.1 N.2.1 N.2.2.1 N.2.2.2.1 hh ∈ TB) : NW N hh s args := ⟨hts _ h, fun a' U hW => word_at hW (tb_good _ h).2 (hts _ h)⟩
theorem wp_invG {idx n c0 i0 ci : Nat} {hh : List (Nat × Nat × Nat × Nat)} (as : List AV) (hd : decode M.2.1 pc = .ok (.invokevirtual idx, 3)) (hm : Cond.methodLink M.1.cls idx N.1 ∈ TB) (hNi : Cond.initialized N.1.cls ∈ TB) (hNp : N.1.cls ≠ "java/lang/invoke/MethodHandle" ∧ N.1.cls ≠ "java/lang/invoke/VarHandle" ∧ (parseMethodDescriptor N.1.desc).map (fun d => d.parameters.length) = some n) (hNq : plainName N.1.cls = true) (hNl : N.2.2.1 ≤ 20) (hNm : Cond.instanceMethod N.1 ∈ TB) (hNs : Cond.selects N.1.cls N.1 N.1 ∈ TB) (ho : oc c0 = some ci) (hcl : (classes[ci]?).map (fun q => q.1) = some N.1.cls) (hn : as.length = n) (hle : (entL (vR c0 i0 :: as)).length ≤ N.2.2.1) (hca : (ast.map cat).sum ≤ 8) (hrk : N.2.2.2.2 < M.2.2.2.2) (hrm : M.2.2.2.2 ≤ 12) (h1 : c0 < 1000) {QN : Res → St → Prop}
    (k : WP N 0 (ent (vR c0 i0 :: as) N.2.2.1) [] σ QN) {G : GG} {A : Nat → Prop} {p : Program} {l : Launch} {e : Env} {R : Room} {s : State} {mid : MethodId} {args : Array Value} {below : List Frame} {meth : Method} {c : Code} {cells slots : Nat} {Z : State → Prop}
    (hC : CX M G A p R s mid args meth c) (hX : SQ M G A s mid ∧ cells ≤ R.cells ∧ slots ≤ R.slots) (hE : EN M G A p l e R s mid args below meth c cells slots Z Q) (hNW : NW N hh s args) {H : Heap} {locs : List Loc} {ls : Array Slot} {st : List Value} (hW : WD G A σ s H locs) (hl : rl G M.2.2.1 ls als) (hs : rs G st (as.reverse ++ vR c0 i0 :: ast)) {T : State} (hT : T.heap = H) (X : Stand p l e R s mid args below meth c T locs cells slots) :
    ∃ (r : Res) (σ' : St) (T' : State) (L : List Loc) (rest : List Value), QN r σ' ∧ rs G rest ast ∧ WD G A σ' s T'.heap (locs ++ L) ∧ Stand p l e R s mid args below meth c T' (locs ++ L) cells slots ∧ (match r with
      | .inl none => ∀ target, Steps p.tables e below (T'.setTop (F0 mid (pc + 3) ls rest)) target → Steps p.tables e below (T.setTop (F0 mid pc ls st)) target
      | .inl (some a) => ∃ u, rv G u a ∧ ∀ target, Steps p.tables e below (T'.setTop (F0 mid (pc + 3) ls (u :: rest))) target → Steps p.tables e below (T.setTop (F0 mid pc ls st)) target
      | .inr q => q ∈ G.2.2.2.1 ∧ ∀ target, Steps p.tables e below ((T'.setTop (F0 mid pc ls rest)).pushFrame (.throwing (G.2.2.1 q.1 q.2))) target → Steps p.tables e below (T.setTop (F0 mid pc ls st)) target) := by
  obtain ⟨sa, sb, rfl, hsa, hsb⟩ := rs_app _ _ _ hs
  obtain ⟨rest, rfl, hmem, hrest⟩ := rs_R hsb
  have hmem : (c0, i0) ∈ G.2.2.2.1 := hmem.resolve_right (by omega)
  have hargs : rs G (.ref (G.2.2.1 c0 i0) :: sa.reverse) (vR c0 i0 :: as) := ⟨⟨rfl, Or.inl hmem⟩, by have := rs_rev _ _ hsa; rwa [List.reverse_reverse] at this⟩
  have hM := metG_of (N := N) (G := G) (A := A) hh l k hNq hargs hle hW.2.1 hW.2.2.2.1 hW.2.2.2.2 (by omega)
  obtain ⟨k0, hk0, hk1⟩ := ww_at (σ := σ) hmem
  rw [ce_obj ho] at hk1
  obtain ⟨cq, hcq, hcq2⟩ := Option.map_eq_some_iff.mp hcl
  have hrecv := va_recv hC.2.2.2.2.2.2.2.1 hW.1 hcq hk1
  rw [hcq2] at hrecv
  obtain ⟨cellB, r1, r2, r3⟩ := hrecv
  have hts := hC.2.2.2.2.1
  have h9 := hC.2.2.2.2.2.2.2.2.1
  have h10 := hC.2.2.2.2.2.2.2.2.2.1
  have hlen : sa.reverse.length = n := by
    rw [List.length_reverse, ← hn, rs_len _ _ hsa, List.length_reverse]
  obtain ⟨lv, gl, -⟩ := id hl
  obtain ⟨o, st₀, t, T', L, a1, X', hL, e1, e2, ⟨⟨r, σ', hq, hor, hP, hD, hR⟩, hF⟩, hret, hthr⟩ := callVT X hC.1 (bytes := N.2.1) (maxL := N.2.2.1) (ret := N.2.2.2.1) (hh := hh) hM pc_blind rfl rfl (by show N.2.2.2.2 + 1 ≤ R.frames; omega) (by show 8 + (N.2.2.1 + 11) + 39 * N.2.2.2.2 ≤ R.locals; omega)
    (fun w hw a' U hWm => by
      rcases List.mem_cons.mp hw with rfl | hw
      · exact hNW.2 a' U hWm
      · exact word_at hWm (tb_good w hw).2 (hts w hw))
    hNW.1 hNW.2 (fun a' U hWm => word_at hWm (tb_good _ hNi).2 (hts _ hNi)) hC.2.2.2.1 (hts _ hm) (hts _ hNm) (hts _ hNs) ⟨hNp.1, hNp.2.1⟩
    (b := G.2.2.1 c0 i0) (cellB := cellB) (by rw [hT]; exact r1) r2 r3 (g := F0 mid pc ls (sa ++ .ref (G.2.2.1 c0 i0) :: rest)) rfl (by rw [hC.2.2.1]; exact gl.1) (argsL := sa.reverse) (rest := rest)
    (fun sig hsig => by
      have := hNp.2.2
      rw [hsig] at this
      rw [hlen]
      exact (Option.some.inj this).symm)
    (by show sa ++ _ = sa.reverse.reverse ++ _; rw [List.reverse_reverse]) (lv_room (by rw [rs_cat ast rest hrest]; exact hca)) (by rw [hC.2.1]; exact hd) hX.2.1 hX.2.2
    (fun vm₁ hWm => ⟨rfl, by show va_P G.1 classes (ww G σ) T.heap; rw [hT]; exact hW.1, va_K.moved (u := s) (U := T.setVm vm₁) hWm.alike hC.2.2.2.2.2.2.2.1, nw_warm (U := T.setVm vm₁) hWm hC.2.2.2.2.2.2.2.2.2.2.1, sx_at (U := T.setVm vm₁) hW.2.2.1 hT hWm hC.2.2.2.2.2.2.2.2.2.2.2⟩)
  have hW' : WD G A σ' s T'.heap (locs ++ L) := wp_goesT (st₀ := st₀) (t := t) (r := r) (o := o) hC hX hE hW hl hrest (by rw [a1, hT]) X' hL e1 hP hD hR hF
  refine ⟨r, σ', T', L, rest, hq, hrest, hW', X', ?_⟩
  match r, hor with
  | .inl none, hor => exact hret none hor
  | .inl (some a), hor =>
    obtain ⟨u, hu, hrv⟩ := hor
    exact ⟨u, hrv, hret (some u) hu⟩
  | .inr q, hor => exact ⟨hor.2, hthr _ hor.1⟩
theorem wp_invVT {idx n c0 i0 ci : Nat} (hMc : Cond.code M.1 M.2.1 M.2.2.1 M.2.2.2.1 ∈ TB) (as : List AV) (hd : decode M.2.1 pc = .ok (.invokevirtual idx, 3)) (hm : Cond.methodLink M.1.cls idx N.1 ∈ TB) (hN : MV N n) (ho : oc c0 = some ci) (hcl : (classes[ci]?).map (fun q => q.1) = some N.1.cls) (hst : stk = as.reverse ++ vR c0 i0 :: ast) (hn : as.length = n) (hen : ent (vR c0 i0 :: as) N.2.2.1 = als1) (hle : (entL (vR c0 i0 :: as)).length ≤ N.2.2.1) (hca : (ast.map cat).sum ≤ 8) (hrk : N.2.2.2.2 < M.2.2.2.2) (hrm : M.2.2.2.2 < 12) (h1 : c0 < 1000)
    (k : WP N 0 als1 [] σ (CTT M (pc + 3) als ast Q)) : WP M pc als stk σ Q := by
  intro G A p l e R s mid args below meth c cells slots Z hC hX hE H locs ls st hW hl hs
  subst hst
  subst hen
  intro T hT X
  have hts := hC.2.2.2.2.1
  obtain ⟨r, σ', T', L, rest, hq, hrest, hW', X', hgo⟩ := wp_invG (Q := Q) as hd hm hN.1.2.1 hN.1.2.2.1 hN.1.2.2.2.1 hN.1.2.2.2.2 hN.2.1 hN.2.2 ho hcl hn hle hca hrk (by omega) h1 k hC hX hE (NW.c hts hN.1.1) hW hl hs hT X
  match r, hq, hgo with
  | .inl none, hq, hgo =>
    obtain ⟨t2, a2, b2⟩ := hq G A p l e R s mid args below meth c cells slots Z hC hX hE T'.heap (locs ++ L) ls rest hW' hl hrest T' rfl X'
    exact ⟨t2, hgo t2 a2, b2⟩
  | .inl (some a), hq, hgo =>
    obtain ⟨u, hrv, hgo⟩ := hgo
    obtain ⟨t2, a2, b2⟩ := hq G A p l e R s mid args below meth c cells slots Z hC hX hE T'.heap (locs ++ L) ls (u :: rest) hW' hl ⟨hrv, hrest⟩ T' rfl X'
    exact ⟨t2, hgo t2 a2, b2⟩
  | .inr q, hq, hgo =>
    obtain ⟨t2, a2, b2⟩ := hE.2.2.2 T' T'.heap (locs ++ L) σ' pc ls rest q rfl X' hW' hgo.1 hq (no_hand X' (hX.1.2 (by omega)) (hts _ hMc) pc)
    exact ⟨t2, hgo.2 t2 a2, b2⟩
/-- a callee with handlers, that doesn't throw -/
theorem wp_invVW {idx n c0 i0 ci : Nat} {hh : List (Nat × Nat × Nat × Nat)} (as : List AV) (hd : decode M.2.1 pc = .ok (.invokevirtual idx, 3)) (hm : Cond.methodLink M.1.cls idx N.1 ∈ TB) (hNc : Cond.codeWith N.1 N.2.1 N.2.2.1 N.2.2.2.1 hh ∈ TB) (hNi : Cond.initialized N.1.cls ∈ TB) (hNp : N.1.cls ≠ "java/lang/invoke/MethodHandle" ∧ N.1.cls ≠ "java/lang/invoke/VarHandle" ∧ (parseMethodDescriptor N.1.desc).map (fun d => d.parameters.length) = some n) (hNq : plainName N.1.cls = true) (hNl : N.2.2.1 ≤ 20) (hNm : Cond.instanceMethod N.1 ∈ TB) (hNs : Cond.selects N.1.cls N.1 N.1 ∈ TB) (ho : oc c0 = some ci) (hcl : (classes[ci]?).map (fun q => q.1) = some N.1.cls) (hst : stk = as.reverse ++ vR c0 i0 :: ast) (hn : as.length = n) (hen : ent (vR c0 i0 :: as) N.2.2.1 = als1) (hle : (entL (vR c0 i0 :: as)).length ≤ N.2.2.1) (hca : (ast.map cat).sum ≤ 8) (hrk : N.2.2.2.2 < M.2.2.2.2) (hrm : M.2.2.2.2 ≤ 12) (h1 : c0 < 1000)
    (k : WP N 0 als1 [] σ (CT M (pc + 3) als ast Q)) : WP M pc als stk σ Q := by
  intro G A p l e R s mid args below meth c cells slots Z hC hX hE H locs ls st hW hl hs
  subst hst
  subst hen
  intro T hT X
  have hts := hC.2.2.2.2.1
  obtain ⟨r, σ', T', L, rest, hq, hrest, hW', X', hgo⟩ := wp_invG (Q := Q) as hd hm hNi hNp hNq hNl hNm hNs ho hcl hn hle hca hrk hrm h1 k hC hX hE (NW.w hts hNc) hW hl hs hT X
  match r, hq, hgo with
  | .inl none, hq, hgo =>
    obtain ⟨t2, a2, b2⟩ := hq G A p l e R s mid args below meth c cells slots Z hC hX hE T'.heap (locs ++ L) ls rest hW' hl hrest T' rfl X'
    exact ⟨t2, hgo t2 a2, b2⟩
  | .inl (some a), hq, hgo =>
    obtain ⟨u, hrv, hgo⟩ := hgo
    obtain ⟨t2, a2, b2⟩ := hq G A p l e R s mid args below meth c cells slots Z hC hX hE T'.heap (locs ++ L) ls (u :: rest) hW' hl ⟨hrv, hrest⟩ T' rfl X'
    exact ⟨t2, hgo t2 a2, b2⟩
  | .inr q, hq, hgo => exact hq.elim
end Throw2
