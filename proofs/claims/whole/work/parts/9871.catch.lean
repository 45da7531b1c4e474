/-! ===== the catch of the model's valley, and the law's call of it ===== -/
theorem go_cold {E : CtlPost} {e : Env} {d : Bool} {acts : List Action} {s : State} {f : JFrame} {a : Addr} {Q : Handler → Pre} {x : ExceptionTableEntry} {t : List ExceptionTableEntry} {c : ClassId} {cell : Cell} {vm' : Vm} (hx : covers x f.pc = true) (h0 : x.catchType ≠ 0)
    (hg : (Jvm.resolveClass f.method.cls x.catchType).Gives e.toSetting s.vm (.ok c) vm') (hsz : vm'.classes.size ≤ s.vm.classes.size) (hcell : s.heap[a]? = some cell) (hobj : ∀ k, cell.vm ≠ .statics k)
    (hk : ∃ k, vm'.classes[cell.cls]? = some k) (hc : ∃ k, vm'.classes[c]? = some k) (hfit : vm'.assignable cell.cls c = true) :
    wp (findHandler.go f a (x :: t)) Q E e d acts s ↔ Q (.found x.handlerPc) d acts (s.setVm vm') := by
  simp only [covers] at hx
  obtain ⟨ha, ht⟩ := hg.op (op := VmOp.resolveClass f.method.cls x.catchType) rfl
  simp [findHandler.go, hx, h0, ha, ht, hsz, hcell, hobj, hk, hc, hfit, VmOp.dirties, VmOp.acts]
theorem catch_cold {p : Program} {l : Launch} {e : Env} {R : Room} {s : State} {m : MethodId} {args : Array Value} {below : List Frame} {meth : Method} {c : Code} {T : State} {locs : List Loc} {cells slots : Nat} (X : Stand p l e R s m args below meth c T locs cells slots) {own C : String} {index : Nat} (hown : s.vm.findClass own = some m.cls) (hclink : (Cond.classLink own index C).before args s = true)
    {g : JFrame} (hg : g.method = m) {x : ExceptionTableEntry} (htab : c.exceptionTable.toList = [x]) (hx : covers x g.pc = true) (h0 : x.catchType = index) (hne : index ≠ 0) {a : Addr} {cell : Cell} (hcell : T.heap[a]? = some cell) (hobj : cell.vm.isStatics = false) (hcls : s.vm.findClass C = some cell.cls) :
    ∃ vm', Stand p l e R s m args below meth c (T.setVm vm') locs cells slots ∧ ∀ target, Steps p.tables e below ((T.setVm vm').setTop { g with pc := x.handlerPc, stack := [.ref a] }) target → Steps p.tables e below ((T.setTop g).pushFrame (.throwing a)) target := by
  have hpl : e.platform.magicAccessors = ({} : Platform).magicAccessors := by rw [X.admits.platform]
  obtain ⟨c', hc', hcl⟩ := Cond.classLink_spec hown hclink e.platform hpl
  cases hcls.symm.trans hc'
  obtain ⟨dk, _, _, kt, hd, _, _, _, _, hkt, _, hopen⟩ := hcl.here
  have hcl₀ := X.warmed.classLinks hcl
  have hW' : s.WarmedH (T.vm.noted m.cls index (.cls cell.cls)) := X.warmed.noted hd hopen (State.rightAt_cls hcl)
  obtain ⟨kt', hkt', -⟩ := hW'.alike.2.2 _ _ hkt
  have hsz : (T.vm.noted m.cls index (.cls cell.cls)).classes.size ≤ T.vm.classes.size := by rw [Vm.size_noted]; exact Nat.le_refl _
  have hgv := resolveClass_links e.toSetting hcl₀
  have hfit : (T.vm.noted m.cls index (Resolved.cls cell.cls)).assignable cell.cls cell.cls = true := by rw [hW'.alike.assignable]; exact va_asg _ _
  generalize T.vm.noted m.cls index (.cls cell.cls) = vm₁ at *
  refine ⟨vm₁, X.noted hW', fun target hrest => ?_⟩
  subst hg
  have h : At T g.method c below := X.here
  obtain ⟨hgo, hw⟩ := h.throwing a
  refine Steps.head hgo hw ?_
  obtain ⟨g₀, hg0⟩ := Option.isSome_iff_exists.mp h.top
  obtain ⟨r, hr⟩ := State.topJava?_eq_some.mp hg0
  have hfind : ∀ (Q : Handler → Pre) (E : CtlPost) (d : Bool) (acts : List Action), wp (findHandler g a) Q E e d acts ((T.setTop g).pushFrame (.throwing a)) ↔ Q (.found x.handlerPc) d acts (((T.setTop g).pushFrame (.throwing a)).setVm vm₁) := by
    intro Q E d acts
    rw [W.findHandler_eq (meth := meth) (code := c) (by rw [Stand.throwing_vm]; exact X.method') X.code, htab]
    refine go_cold hx (by rw [h0]; exact hne) (c := cell.cls) (cell := cell) ?_ ?_ ?_ (VmData.noStatics_of hobj) ⟨kt', hkt'⟩ ⟨kt', hkt'⟩ hfit
    · rw [Stand.throwing_vm, h0]; exact hgv
    · rw [Stand.throwing_vm]; exact hsz
    · rw [Stand.throwing_heap]; exact hcell
  have key : (stepThrowing e ((T.setTop g).pushFrame (.throwing a)) a (.java g :: T.frames.tail)).1 = (((T.setTop g).pushFrame (.throwing a)).setVm vm₁).setFrames (.java { g with pc := x.handlerPc, stack := [.ref a] } :: T.frames.tail) := by
    simp only [stepThrowing, searchFrame, vmDo]
    generalize hres : Sem.go _ e false [] ((T.setTop g).pushFrame (.throwing a)) = res
    obtain ⟨as, rfl, ha⟩ := Sem.eq_ok_of hres (a := Handler.found x.handlerPc) (s' := ((T.setTop g).pushFrame (.throwing a)).setVm vm₁) (acts' := []) (by simp [hfind _ _ _ _])
    rfl
  rw [stepThread_throwing (frames_entered h.top _), key]
  have hr1 : (T.setVm vm₁).frames = .java g₀ :: r := hr
  rw [State.setTop_of_frames _ hr1] at hrest
  rw [State.setTop_of_frames _ hr, State.pushFrame, State.setFrames_setFrames, State.setFrames_setVm, State.setFrames_setFrames, hr]
  exact hrest
/-- behind a call whose throw is caught at pcH -/
def CTC (M : MI) (pc pcH : Nat) (als alsH ast : List AV) (Q : Res → St → Prop) : Res → St → Prop := fun r σ' => match r with
  | .inl none => WP M pc als ast σ' Q
  | .inl (some a) => WP M pc als (a :: ast) σ' Q
  | .inr q => q = (13, 0) ∧ WP M pcH alsH [vR 13 0] σ' Q
theorem wp_invVC {M N : MI} {pc : Nat} {als alsH ast stk als1 : List AV} {σ : St} {Q : Res → St → Prop} {idx n c0 i0 ci s0 e0 p0 t0 : Nat} (hMc : Cond.codeWith M.1 M.2.1 M.2.2.1 M.2.2.2.1 [(s0, e0, p0, t0)] ∈ TB) (hcv : s0 ≤ pc ∧ pc < e0) (hne : t0 ≠ 0) (hcl2 : Cond.classLink M.1.cls t0 RX12 ∈ TB) (hH : lle alsH als) (as : List AV) (hd : decode M.2.1 pc = .ok (.invokevirtual idx, 3)) (hm : Cond.methodLink M.1.cls idx N.1 ∈ TB) (hN : MV N n) (ho : oc c0 = some ci) (hcl : (classes[ci]?).map (fun q => q.1) = some N.1.cls) (hst : stk = as.reverse ++ vR c0 i0 :: ast) (hn : as.length = n) (hen : ent (vR c0 i0 :: as) N.2.2.1 = als1) (hle : (entL (vR c0 i0 :: as)).length ≤ N.2.2.1) (hca : (ast.map cat).sum ≤ 8) (hrk : N.2.2.2.2 < M.2.2.2.2) (hrm : M.2.2.2.2 < 12) (h1 : c0 < 1000)
    (k : WP N 0 als1 [] σ (CTC M (pc + 3) p0 als alsH ast Q)) : WP M pc als stk σ Q := by
  intro G A p l e R s mid args below meth c cells slots Z hC hX hE H locs ls st hW hl hs
  subst hst
  subst hen
  intro T hT X
  have hts := hC.2.2.2.2.1
  obtain ⟨r, σ', T', L, rest, hq, hrest, hW', X', hgo⟩ := wp_invG (Q := Q) as hd hm hN.1.2.1 hN.1.2.2.1 hN.1.2.2.2.1 hN.1.2.2.2.2 hN.2.1 hN.2.2 ho hcl hn hle hca hrk (by omega) h1 k hC hX hE (NW.c hts hN.1.1) hW hl hs hT X
  match r, hq, hgo with
  | .inl none, hq, hgo =>
    obtain ⟨t2, a2, b2⟩ := hq G A p l e R s mid args below meth c cells slots Z hC hX hE T'.heap (locs ++ L) ls rest hW' hl hrest T' rfl X'
    exact ⟨t2, hgo t2 a2, b2⟩
  | .inl (some a), hq, hgo =>
    obtain ⟨u, hrv, hgo⟩ := hgo
    obtain ⟨t2, a2, b2⟩ := hq G A p l e R s mid args below meth c cells slots Z hC hX hE T'.heap (locs ++ L) ls (u :: rest) hW' hl ⟨hrv, hrest⟩ T' rfl X'
    exact ⟨t2, hgo t2 a2, b2⟩
  | .inr q, hq, hgo =>
    obtain ⟨rfl, hq⟩ := hq
    obtain ⟨hmem, hgo⟩ := hgo
    obtain ⟨m9, meth9, c9, hn9, hm9, hc9, -, -, htab, -⟩ := Cond.codeWith_spec (hts _ hMc)
    cases (hX.1.2 (by omega)).symm.trans hn9
    cases X.method.symm.trans hm9
    cases X.code.symm.trans hc9
    have htab2 : ∃ x, c.exceptionTable.toList = [x] ∧ x.startPc = s0 ∧ x.endPc = e0 ∧ x.handlerPc = p0 ∧ x.catchType = t0 := by
      match hcx : c.exceptionTable.toList, htab with
      | [], htab => cases htab
      | [x], htab =>
        simp only [List.map_cons, List.map_nil, List.cons.injEq, Prod.mk.injEq, and_true] at htab
        exact ⟨x, rfl, htab.1, htab.2.1, htab.2.2.1, htab.2.2.2⟩
      | x :: y :: z, htab => simp at htab
    obtain ⟨x, hx1, hx2, hx3, hx4, hx5⟩ := htab2
    obtain ⟨k0, hk0, hk1⟩ := ww_at (σ := σ') hmem
    rw [ce_obj (show oc 13 = some 12 from rfl)] at hk1
    obtain ⟨cell, r1, r2, r3⟩ := va_recv hC.2.2.2.2.2.2.2.1 hW'.1 (show classes[12]? = some (RX12, TX12, 6) from rfl) hk1
    obtain ⟨vm', X2, hst2⟩ := catch_cold X' hC.2.2.2.1 (hts _ hcl2) (g := F0 mid pc ls rest) rfl hx1 (by simp only [covers, hx2, hx3]; simp; exact hcv) hx5 hne r1 r2 r3
    obtain ⟨t2, a2, b2⟩ := hq G A p l e R s mid args below meth c cells slots Z hC hX hE T'.heap (locs ++ L) ls [.ref (G.2.2.1 13 0)] hW' (by
      obtain ⟨lv, g1, g2⟩ := hl
      exact ⟨lv, g1, fun i a hi ha => g2 i a (lle_at _ _ hH i a hi ha) ha⟩) ⟨⟨rfl, Or.inl hmem⟩, trivial⟩ (T'.setVm vm') rfl X2
    rw [hx4] at hst2
    exact ⟨t2, hgo t2 (hst2 t2 a2), b2⟩
