/-! ===== the law from its entry ===== -/
def AO : List (Nat × Nat) := ((12, 0) :: LnX11) ++ ((14, 0) :: LnX13)
def gad (n0 b : Nat) (adK : Nat → Nat) (c i : Nat) : Nat := if c = 1000 then b else if c = 1001 then adK i else n0 + AO.idxOf (c, i)
theorem ao_11 : ∀ j : Fin 99, (LnX11[j.val]?).all (fun q => decide (q.1 < 1000) && decide (AO.idxOf (q.1, q.2) = 1 + j.val)) = true := by decide +kernel
theorem ao_13 : ∀ j : Fin 45, (LnX13[j.val]?).all (fun q => decide (q.1 < 1000) && decide (AO.idxOf (q.1, q.2) = 101 + j.val)) = true := by decide +kernel
theorem ao_l1 : LnX11.length = 99 := by decide +kernel
theorem ao_l3 : LnX13.length = 45 := by decide +kernel
theorem ao_12 : AO.idxOf (12, 0) = 0 := by decide +kernel
theorem ao_14 : AO.idxOf (14, 0) = 100 := by decide +kernel
theorem ao_cd {G : GG} : CD (gRe G AO) := cd_of (by decide +kernel)
theorem gad_lt {n0 b c i : Nat} {adK : Nat → Nat} (h : c < 1000) : gad n0 b adK c i = n0 + AO.idxOf (c, i) := by
  unfold gad
  rw [if_neg (by omega), if_neg (by omega)]
section Law5
variable {G : GG} {A : Nat → Prop} {p : Program} {l : Launch} {e : Env} {s : State} {mid : MethodId} {args : Array Value} {below : List Frame} {meth : Method} {c : Code} {Z : State → Prop} {L : Nat} {xs : Nat → Int32}
theorem law_go (hLX : LX mL_law G A p room_1 s mid args meth c) (hY : SCX G A s L xs) (hL : L ≤ 3072) (hS : ∀ k, G.2.2.2.2.1 k = dS k) (hg12 : G.2.2.1 12 0 = s.heap.size + 0) (hg11 : HG G (s.heap.size + 1) LnX11) (hg14 : G.2.2.1 14 0 = s.heap.size + 100) (hg13 : HG G (s.heap.size + 101) LnX13) (hGL : G.2.2.2.1 = AO)
    (hend : ∀ H locs ls σ, WD G A σ s H locs → W p l e room_1 s mid args below meth c H locs 146 92859 Z (F0 mid 1254 ls [.int 1])) {ls : Array Slot} (hl : lv_has ls 4 [(0, .ref (G.2.2.1 1000 0))]) : W p l e room_1 s mid args below meth c s.heap [] 0 0 Z (F0 mid 0 ls []) := by
  have hC := hLX.1
  have hx := hC.1
  have hb : c.code = cL_law := hC.2.1
  have h64 : in64 0 := ⟨by decide, by decide⟩
  have h32 : in32 0 := ⟨by decide, by decide⟩
  have hR0 : RO (fun _ _ _ => 0) := fun _ _ _ => ⟨h64, fun _ => h32⟩
  have hD : LD G A (fun _ _ _ => 0) [] s s.heap [] 0 := ⟨fun k q h => (by cases h), ⟨fun i j x y h => (by cases h), fun k q h => (by cases h)⟩, va_S.rf, hR0, Or.inl rfl⟩
  refine ln_new (c1 := 12) (i1 := 0) (ci1 := 11) (ty0 := tyX11) (cl1 := 1) (sl1 := 18) (pc3 := 4) hLX dL_law_0 dL_law_3 rfl (tb_1 25 rfl rfl) (tb_1 26 rfl rfl) (tb_1 1 rfl rfl) tyX11_ok rfl (dfX11 0) (fun _ => rfl) rfl rfl rfl (Nat.le_of_ble_eq_true rfl) (Nat.le_of_ble_eq_true rfl) hg12 hD (fun H locs hD => ?_)
  refine ln_call (N := kX11_init) (Lc := (12, 0) :: LnX11) (cl1 := 100) (sl1 := 55355) (pc3 := 7) hLX dL_law_4 (tb_1 27 rfl rfl) moX11_init (tb_1 28 rfl rfl) rfl rfl (by decide) (k_X11 (sz := s.heap.size + 1) hR0 (fun _ _ _ => rfl) hg11) (fun _ h => (by cases h)) rfl rfl rfl (Nat.le_of_ble_eq_true rfl) (Nat.le_of_ble_eq_true rfl) hl.1 ⟨(65, 0), by decide +kernel, congrArg (fun x => x + 1) (hg11 98 _ rfl)⟩ hD (fun τ H locs hf hP hD => ?_)
  refine lv_astore_n hx hb dL_law_7 rfl hl (by decide) rfl (fun ls hl => ?_)
  have hz : ZL τ ((14, 0) :: LnX13) := fun q hq j => hf q.1 q.2 j ((show ∀ q ∈ ((14, 0) :: LnX13), q ∉ ((12, 0) :: LnX11) by decide +kernel) q hq)
  refine ln_new (c1 := 14) (i1 := 0) (ci1 := 13) (ty0 := tyX13) (cl1 := 101) (sl1 := 55447) (pc3 := 12) hLX dL_law_8 dL_law_11 rfl (tb_6 69 rfl rfl) (tb_6 70 rfl rfl) (tb_1 16 rfl rfl) tyX13_ok rfl (dfX13 0) (hz (14, 0) List.mem_cons_self) rfl rfl rfl (Nat.le_of_ble_eq_true rfl) (Nat.le_of_ble_eq_true rfl) hg14 hD (fun H locs hD => ?_)
  refine ln_call (N := kX13_init) (Lc := (14, 0) :: LnX13) (cl1 := 146) (sl1 := 92859) (pc3 := 15) hLX dL_law_12 (tb_6 71 rfl rfl) moX13_init (tb_6 72 rfl rfl) rfl rfl (by decide) (k_X13 (sz := s.heap.size + 101) hD.2.2.2.1 hz hg13 hS) (by decide +kernel) rfl rfl rfl (Nat.le_of_ble_eq_true rfl) (Nat.le_of_ble_eq_true rfl) hl.1 ⟨(109, 0), by decide +kernel, congrArg (fun x => x + 1) (hg13 44 _ rfl)⟩ hD (fun υ H locs hf2 hP2 hD => ?_)
  refine lv_astore_n hx hb dL_law_15 rfl hl (by decide) rfl (fun ls hl => ?_)
  refine lv_iconst (v := 0) hx hb dL_law_16 (by decide) ?_
  refine lv_istore_n hx hb dL_law_17 rfl hl (by decide) rfl (fun ls hl => ?_)
  have hl : lv_has ls 4 [(3, .int 0), (2, .ref (G.2.2.1 14 0)), (1, .ref (G.2.2.1 12 0)), (0, .ref (G.2.2.1 1000 0))] := hl
  have hI : INV (mV D0) υ := inv0 hP hP2 hf2
  have ew : cw G υ AO = ww G υ := by unfold ww cw; rw [hGL]
  have hP9 : va_P G.1 classes (cw G υ AO) H := hD.1
  have hD9 : va_D A (cw G υ AO) := hD.2.1
  rw [ew] at hP9 hD9
  have hCD : CD G := by
    intro q hq k q' hf
    rw [hGL] at hq ⊢
    exact ao_cd (G := G) q hq k q' hf
  refine law_loop hC ⟨⟨fun _ => ⟨L, xs, hL, hY.1, hY.2.1, hY.2.2⟩, fun h => absurd rfl h⟩, Nat.le_of_ble_eq_true rfl, Nat.le_of_ble_eq_true rfl⟩ hY hL hend (L + 1) 0 υ (mV D0) (by omega) (by omega) hI H locs ls [] ⟨hP9, hD9, hD.2.2.1, hD.2.2.2.1, hCD⟩ ⟨_, hl, ?_⟩ trivial
  have h12 : (12, 0) ∈ G.2.2.2.1 := by rw [hGL]; decide +kernel
  have h14 : (14, 0) ∈ G.2.2.2.1 := by rw [hGL]; decide +kernel
  intro i a hi _
  match i, hi with
  | 0, hi => cases hi; exact ⟨_, List.mem_of_getElem? (i := 3) rfl, rfl, Or.inr (Nat.le_refl _)⟩
  | 1, hi => cases hi; exact ⟨_, List.mem_of_getElem? (i := 2) rfl, rfl, Or.inl h12⟩
  | 2, hi => cases hi; exact ⟨_, List.mem_of_getElem? (i := 1) rfl, rfl, Or.inl h14⟩
  | 3, hi => cases hi; exact ⟨_, List.mem_of_getElem? (i := 0) rfl, 0, rfl, rfl⟩
  | i + 4, hi => simp at hi
end Law5
def R_law : String := "CustomValleyLaw"
def lw_P (b : Addr) (xs : List Int32) (args : Array Value) (s : State) : Prop := args = #[.ref b] ∧ s.IntsAt b xs ∧ xs.length ≤ 3072 ∧ (Jvm.Cond.and given_1 narrow_1).before args s = true
def lw_Q (_ : Array Value) (s : State) (o : Outcome) (t : State) : Prop := o = .returned (some (.int 1)) ∧ Framed s o t [] 1170 101051
def lw_Z (below : List Frame) (a : Array Value) (s : State) : State → Prop := fun t => ∃ o, t.status = .running ∧ Ended t below o ∧ lw_Q a s o t
/-- the law's own end, with 1 on the stack, nothing written that was there before, its room as the claim has it -/
theorem lw_ret {p : Program} {l : Launch} {e : Env} {s : State} {m : MethodId} {below : List Frame} {meth : Method} {c : Code} {b : Nat} (hx : p.tables.exec = Jvm.exec) (hb : c.code = code) (hr : meth.sig.returnType = ret) (hlocks : meth.locks = false) {pc : Nat} {H : Heap} {ls : Array Slot} (hdg : decode code pc = .ok (.ireturn, 1)) : W p l e room_1 s m #[Value.ref b] below meth c H [] 1170 101051 (lw_Z below #[Value.ref b] s) (F0 m pc ls [.int 1]) := by
  intro T hT X
  obtain ⟨fs, hret, hrun, hended, hW, hframe⟩ := X.leave (v := some (.int 1)) (hlocks := hlocks) (fun h => by rw [hr] at h; cases h)
  have hmeth' : T.vm.method? m = some meth := X.method'
  refine ⟨T.setFrames fs, ?_, .returned (some (.int 1)), hrun, hended, rfl, ⟨_, rfl⟩, hW, hframe⟩
  jvm_step X.here [X.here.top, hx, hb, hdg, hmeth', hr, ret, narrow_b1]
  (try refine ⟨rfl, ?_⟩); (try refine ⟨rfl, ?_⟩)
  first | (intro acts; rw [hret _ acts rfl rfl rfl]) | rw [hret _ _ rfl rfl rfl]
  exact Steps.refl _
/-- what holds at the law's entry: the machine, the code, the tables' words (any of lw_tbl by 'hts w (by decide +kernel)'), the script of L ints xs at the cell b, what the Statement gives of the start (any of its parts by flat_of_before) -/
def lw_At (p : Program) (s : State) (m : MethodId) (meth : Method) (c : Code) (b L : Nat) (xs : Nat → Int32) : Prop :=
  p.tables.exec = Jvm.exec ∧ c.code = code ∧ meth.sig.returnType = ret ∧ c.maxLocals = 4 ∧ s.vm.findClass R_law = some m.cls ∧ (∀ w ∈ lw_tbl, w.before #[Value.ref b] s = true) ∧ va_X b L xs s s.heap ∧ b < s.heap.size ∧ meth.locks = false ∧ (Jvm.Cond.and given_1 narrow_1).before #[Value.ref b] s = true
theorem whole_start {p : Program} {e : Env} {s : State} {m : MethodId} {below : List Frame} {meth : Method} {c : Code} (l : Launch) {b L : Nat} {xs : Nat → Int32} (hL : L ≤ 3072) (C0 : lw_At p s m meth c b L xs) : W p l e room_1 s m #[Value.ref b] below meth c s.heap [] 0 0 (lw_Z below #[Value.ref b] s) (entryFrame m ([Value.ref b] : List Value).toArray 4) := by
  obtain ⟨hx, hb, hr, hml, hown, hts, hX, hbl, hlocks, hgv⟩ := C0
  have hs : ∀ w ∈ fl1, w.before #[Value.ref b] s = true := flat_of_before _ hgv
  have hA : ∀ a : Nat, a < s.heap.size → ¬ (fun q => s.heap.size ≤ q) a := fun a h z => by simp only at z; omega
  have htb : ∀ w ∈ TB, w.before #[Value.ref b] s = true := fun w hw => hts w (List.mem_filter.mp hw).1
  obtain ⟨adK, adV, hSX, hvR⟩ := lw_sx (A := fun q => s.heap.size ≤ q) hA hs hts
  obtain ⟨D, tc, hK⟩ := lw_K htb
  have e1 : (fun i => gad s.heap.size b adK 1001 i) = adK := by funext i; simp [gad]
  have e0 : gad s.heap.size b adK 1000 0 = b := by simp [gad]
  have hLX : LX mL_law (D, tc, gad s.heap.size b adK, AO, dS, adV) (fun q => s.heap.size ≤ q) p room_1 s m #[Value.ref b] meth c := by
    refine ⟨⟨hx, hb, hml, hown, htb, hlocks, hr, hK, Nat.le_of_ble_eq_true rfl, Nat.le_of_ble_eq_true rfl, lw_nwL hts, ⟨?_, hSX.2⟩, fun q hq => ?_⟩, lw_nwC hts, fun q h => h, lw_tz hA hs hts⟩
    · show vk_S 11 strLen strByt (fun i => gad s.heap.size b adK 1001 i) adV _ s s.heap
      rw [e1]
      exact hSX.1
    · show vk_R q.1 q.2.1 q.2.2.1 (gad s.heap.size b adK 1001 q.2.2.2) s
      rw [show gad s.heap.size b adK 1001 q.2.2.2 = adK q.2.2.2 from congrFun e1 _]
      exact hvR q hq
  rw [lg_entry_eq]
  refine law_go (L := L) (xs := xs) hLX ⟨?_, ?_, ?_⟩ hL (fun _ => rfl) ?_ ?_ ?_ ?_ rfl (fun H locs ls σ hW => ?_) ?_
  · show va_X (gad s.heap.size b adK 1000 0) L xs s s.heap
    rw [e0]; exact hX
  · show gad s.heap.size b adK 1000 0 < s.heap.size
    rw [e0]; exact hbl
  · show ¬ s.heap.size ≤ gad s.heap.size b adK 1000 0
    rw [e0]; omega
  · show gad s.heap.size b adK 12 0 = s.heap.size + 0
    rw [gad_lt (by decide), ao_12]
  · intro j q hq
    show gad s.heap.size b adK q.1 q.2 = s.heap.size + 1 + j
    have hj : j < 99 := by have := (List.getElem?_eq_some_iff.mp hq).1; rw [ao_l1] at this; exact this
    have h := ao_11 ⟨j, hj⟩
    simp only [hq, Option.all_some, Bool.and_eq_true, decide_eq_true_eq] at h
    rw [gad_lt h.1, h.2]
    omega
  · show gad s.heap.size b adK 14 0 = s.heap.size + 100
    rw [gad_lt (by decide), ao_14]
  · intro j q hq
    show gad s.heap.size b adK q.1 q.2 = s.heap.size + 101 + j
    have hj : j < 45 := by have := (List.getElem?_eq_some_iff.mp hq).1; rw [ao_l3] at this; exact this
    have h := ao_13 ⟨j, hj⟩
    simp only [hq, Option.all_some, Bool.and_eq_true, decide_eq_true_eq] at h
    rw [gad_lt h.1, h.2]
    omega
  · refine va_forget (fun q hq => hW.2.2.1.2.2 q hq) ?_
    refine W.widen (k := 1170) (n := 101051) (by decide) (by decide) ?_
    exact lw_ret hx hb hr hlocks dL_law_1254
  · have h := lv_entry ([.ref b]) (n := 4) (Nat.le_of_ble_eq_true rfl)
    show lv_has _ 4 [(0, .ref (gad s.heap.size b adK 1000 0))]
    rw [e0]
    exact h
