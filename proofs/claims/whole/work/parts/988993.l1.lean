/-! ===== the law makes its two objects ===== -/
def LD (G : GG) (A : Nat → Prop) (σ : St) (L : List (Nat × Nat)) (s : State) (H : Heap) (locs : List Loc) (n : Nat) : Prop :=
  va_P G.1 classes (cw G σ L) H ∧ va_D A (cw G σ L) ∧ va_S A s.heap H locs ∧ RO σ ∧ (n = 0 ∨ ∃ q ∈ L, G.2.2.1 q.1 q.2 + 1 = s.heap.size + n)
def L2 (G : GG) (A : Nat → Prop) (σ : St) (L : List (Nat × Nat)) (c1 i1 ci1 : Nat) (s : State) (H : Heap) (locs : List Loc) (n : Nat) : Prop :=
  va_P G.1 classes (cw G σ L ++ [(G.2.2.1 c1 i1, eB G σ [] c1 i1 ci1)]) H ∧ va_D A (cw G σ L ++ [(G.2.2.1 c1 i1, eB G σ [] c1 i1 ci1)]) ∧ va_S A s.heap H locs ∧ RO σ ∧ H.size = s.heap.size + n
def LX (M : MI) (G : GG) (A : Nat → Prop) (p : Program) (R : Room) (s : State) (mid : MethodId) (args : Array Value) (meth : Method) (c : Code) : Prop :=
  CX M G A p R s mid args meth c ∧ (∀ w ∈ nwC, va_Nw w s) ∧ (∀ q, s.heap.size ≤ q → A q) ∧ TZ A s
section Law4
variable {M N : MI} {G : GG} {A : Nat → Prop} {p : Program} {l : Launch} {e : Env} {R : Room} {s : State} {mid : MethodId} {args : Array Value} {below : List Frame} {meth : Method} {c : Code} {cells slots : Nat} {Z : State → Prop} {σ : St} {L : List (Nat × Nat)} {H : Heap} {locs : List Loc} {ls : Array Slot} {lv : List (Nat × Value)} {pc : Nat} {rest : List Value} {n : Nat}
theorem ld_size {T : State} (hD : LD G A σ L s H locs n) (hT : T.heap = H) (X : Stand p l e R s mid args below meth c T locs n slots) : H.size = s.heap.size + n := by
  have h1 : H.size ≤ s.heap.size + n := by
    have := X.same.2.2.1
    rw [← hT]
    exact this
  have h2 := hD.2.2.1.1
  rcases hD.2.2.2.2 with h | ⟨q, hq, h⟩
  · omega
  · obtain ⟨k, -, hk⟩ := cw_at (G := G) (σ := σ) hq
    have := (hD.1 k _ hk).lt
    simp only at this
    omega
theorem ln_new {idx1 c1 i1 ci1 N0 cl1 sl1 pc3 : Nat} {C : String} {T : u_T} {ty0 : Nat → FieldType} (hB : LX M G A p R s mid args meth c) (d1 : decode M.2.1 pc = .ok (.new idx1, 3)) (d2 : decode M.2.1 (pc + 3) = .ok (.dup, 1)) (hcl : classes[ci1]? = some (C, T, N0)) (hlink : Cond.classLink M.1.cls idx1 C ∈ TB) (hins : Cond.instantiable C N0 ∈ TB) (hini : Cond.initialized C ∈ TB) (hty : ∀ k, k < N0 → parseFieldDescriptor (T k).2.2.1 = some (ty0 k)) (hnf : N0 = nf ci1) (hdf : ∀ j, j < N0 → defaultValue (ty0 j) = dfl c1 i1 j) (hz : ∀ j, σ c1 i1 j = 0)
    (hcl' : cells + 1 = cl1) (hsl' : slots + N0 = sl1) (hpc : pc + 4 = pc3) (hc : cl1 ≤ R.cells) (hs : sl1 ≤ R.slots) (hg : G.2.2.1 c1 i1 = s.heap.size + cells) (hD : LD G A σ L s H locs cells)
    (kk : ∀ H locs, L2 G A σ L c1 i1 ci1 s H locs cl1 → W p l e R s mid args below meth c H locs cl1 sl1 Z (F0 mid pc3 ls [.ref (G.2.2.1 c1 i1), .ref (G.2.2.1 c1 i1)])) : W p l e R s mid args below meth c H locs cells slots Z (F0 mid pc ls []) := by
  have hC := hB.1
  subst hcl'
  subst hsl'
  subst hpc
  intro T1 hT X
  have hsz := ld_size hD hT X
  revert T1
  show W p l e R s mid args below meth c H locs cells slots Z (F0 mid pc ls [])
  have hKn := hC.2.2.2.2.2.2.2.1.1 ci1 _ hcl
  refine W.newcK hC.1 hC.2.1 hC.2.2.2.1 (hC.2.2.2.2.1 _ hlink) (hC.2.2.2.2.1 _ hins) (hC.2.2.2.2.1 _ hini) rfl d1 hc hs hKn.2.1 hsz fun H1 kC hkC e1 z1 o1 => ?_
  obtain ⟨hP, hDD, hS, hRo, hlb⟩ := hD
  have hk : ∀ (k : Nat) (x : Nat × va_E), (cw G σ L)[k]? = some x → H1[x.1]? = H[x.1]? := fun k x hx => o1 x.1 (by rw [← hsz]; exact (hP k x hx).lt)
  show W p l e R s mid args below meth c H1 locs (cells + 1) (slots + N0) Z (F0 mid (pc + 3) ls [.ref (s.heap.size + cells)])
  refine lv_dup hC.1 hC.2.1 d2 rfl ?_
  rw [← hg]
  refine kk H1 locs ⟨(hP.kept hk).app (fun k x hx => ?_), hDD.push hP (by rw [hg, hsz]) (hB.2.2.1 _ (by omega)), ⟨by omega, fun x h1 h2 => (o1 x (by omega)).trans (hS.2.1 x h1 h2), hS.2.2⟩, hRo, by omega⟩
  have hz1 : k < 1 := (List.getElem?_eq_some_iff.mp hx).1
  rw [show k = 0 by omega] at hx
  cases hx
  refine ⟨_, hcl, ?_⟩
  rw [← hg] at e1
  refine (u_born ty0 hC.2.2.2.2.1 (cls_tab ci1 hcl).1 hKn hkC e1 hty).to (fun j hj => ?_)
  rw [hdf j hj]
  show dfl c1 i1 j = ((List.range (nf ci1)).map (fvB G σ [] c1 i1)).getD j .null
  rw [List.getD_eq_getElem?_getD, List.getElem?_map, List.getElem?_range (by omega)]
  show dfl c1 i1 j = fvB G σ [] c1 i1 j
  rw [fvB_dfl hz]
theorem ln_call {idx2 mc ms c1 i1 ci1 cl1 sl1 pc3 : Nat} {Lc : List (Nat × Nat)} {P : St → Prop} (hB : LX M G A p R s mid args meth c) (d : decode M.2.1 pc = .ok (.invokespecial idx2, 3)) (hm : Cond.methodLink M.1.cls idx2 N.1 ∈ TB) (hMO : MO N 0) (hin : Cond.instanceMethod N.1 ∈ TB) (hnm : N.1.name = "<init>") (hrt : N.2.2.2.1 = none) (hrk : N.2.2.2.2 < M.2.2.2.2) (hM : KM l N G σ c1 i1 ci1 (s.heap.size + cells) [] Lc mc ms P) (hdis : ∀ q ∈ L, q ∉ Lc) (hcl' : cells + mc = cl1) (hsl' : slots + ms = sl1) (hpc : pc + 3 = pc3) (hcc : cl1 ≤ R.cells) (hss : sl1 ≤ R.slots) (hsz : ls.size = M.2.2.1) (hlb : ∃ q ∈ Lc, G.2.2.1 q.1 q.2 + 1 = s.heap.size + cl1) (hD : L2 G A σ L c1 i1 ci1 s H locs cells)
    (kk : ∀ τ H locs, FR (inL Lc) σ τ → P τ → LD G A τ (L ++ Lc) s H locs cl1 → W p l e R s mid args below meth c H locs cl1 sl1 Z (F0 mid pc3 ls [.ref (G.2.2.1 c1 i1)])) : W p l e R s mid args below meth c H locs cells slots Z (F0 mid pc ls [.ref (G.2.2.1 c1 i1), .ref (G.2.2.1 c1 i1)]) := by
  have hC := hB.1
  subst hcl'
  subst hsl'
  subst hpc
  have hc : cells + mc ≤ R.cells ∧ slots + ms ≤ R.slots := ⟨hcc, hss⟩
  have hts := hC.2.2.2.2.1
  obtain ⟨hP, hDD, hS, hRo, hHs⟩ := hD
  have hroom : (rmB N mc ms).frames + 1 ≤ R.frames ∧ 8 + (N.2.2.1 + 11) + (rmB N mc ms).locals ≤ R.locals := by
    have h9 := hC.2.2.2.2.2.2.2.2.1
    have h10 := hC.2.2.2.2.2.2.2.2.2.1
    have h11 := hMO.2.2.2.2
    show N.2.2.2.2 + 1 ≤ R.frames ∧ 8 + (N.2.2.1 + 11) + 39 * N.2.2.2.2 ≤ R.locals
    omega
  have hlast : (cw G σ L ++ [(G.2.2.1 c1 i1, eB G σ [] c1 i1 ci1)])[(cw G σ L).length]? = some (G.2.2.1 c1 i1, eB G σ [] c1 i1 ci1) := by
    rw [List.getElem?_append_right (Nat.le_refl _)]; simp
  have hAA : ∀ q, AB G c1 i1 (s.heap.size + cells) q → A q := by
    intro q hq
    rcases hq with rfl | hq
    · exact hDD.2 _ _ hlast
    · exact hB.2.2.1 q (by omega)
  have hpre : ∀ U : State, U.heap = H → s.WarmedH U.vm → PcB G (AB G c1 i1 (s.heap.size + cells)) σ c1 i1 ci1 (s.heap.size + cells) [] (Value.ref (G.2.2.1 c1 i1) :: []).toArray U := fun U hU hWm =>
    ⟨rfl, by rw [hU, hHs], fun k x hx => by
      have h1 : k < 1 := (List.getElem?_eq_some_iff.mp hx).1
      rw [show k = 0 by omega] at hx
      cases hx
      rw [hU]
      exact hP _ _ hlast, va_K.moved hWm.alike hC.2.2.2.2.2.2.2.1, nw_warm hWm hC.2.2.2.2.2.2.2.2.2.2.1, nwC_warm hWm hB.2.1, sx_narrow (sx_at hS hU hWm hC.2.2.2.2.2.2.2.2.2.2.2) hAA, tz_at hS hU hWm hB.2.2.2 hAA⟩
  have S : CallFix p mid c M.2.1 M.2.2.1 s args TB M.1.cls := ⟨hC.1, hC.2.1, hC.2.2.1, hC.2.2.2.1, hts⟩
  have hrun : va_Run p l e R s mid args below meth c H locs cells slots mc ms (F0 mid pc ls [.ref (G.2.2.1 c1 i1), .ref (G.2.2.1 c1 i1)]) [.ref (G.2.2.1 c1 i1)] (QcB G (AB G c1 i1 (s.heap.size + cells)) σ Lc P (Value.ref (G.2.2.1 c1 i1) :: []).toArray) (AB G c1 i1 (s.heap.size + cells)) := by
    unfold KM at hM
    exact va_runI (As := []) S hM ⟨callB_of 0 hts (good_ws hMO) (by rw [← hrt]) rfl rfl (hts _ hMO.2.1) (hts _ hm) hMO.2.2.1 hroom, hnm, hts _ hin⟩ ⟨pcB_blind, hpre⟩ rfl rfl hsz rfl (lv_room (Nat.le_of_ble_eq_true rfl)) d hc
  intro T hT X
  obtain ⟨v, st₀, t, T', L', h0, X', hL, e1, e2, ⟨⟨τ, hfr, hq, hv, hR1, hP1, hD1⟩, hz, hk⟩, go⟩ := hrun T hT X
  cases hv
  rw [h0] at hz hk
  have hS1 : va_S A s.heap T'.heap (locs ++ L') := by
    refine ⟨Nat.le_trans hS.1 (by rw [e1]; exact hz), fun q h1 h2 => ?_, fun q hq => ?_⟩
    · rw [e1, hk q (Nat.lt_of_lt_of_le h1 hS.1) (fun z => h2 (hAA q z))]
      exact hS.2.1 q h1 h2
    · rcases List.mem_append.mp hq with h | h
      · exact hS.2.2 q h
      · exact hAA _ (hL q h)
  have hold : cw G τ L = cw G σ L := cw_eq (fun q hq j => hfr q.1 q.2 j (hdis q hq))
  have hapart : ∀ (k : Nat) (x : Nat × va_E), (cw G σ L)[k]? = some x → x.1 < H.size ∧ ¬ AB G c1 i1 (s.heap.size + cells) x.1 := by
    intro k x hx
    have hlt : k < (cw G σ L).length := (List.getElem?_eq_some_iff.mp hx).1
    have hx2 : (cw G σ L ++ [(G.2.2.1 c1 i1, eB G σ [] c1 i1 ci1)])[k]? = some x := by rw [List.getElem?_append_left hlt]; exact hx
    have hl := (hP k x hx2).lt
    refine ⟨hl, fun hab => ?_⟩
    rcases hab with hab | hab
    · have := hDD.1 k _ x _ hx2 hlast hab
      omega
    · omega
  have hPn : va_P G.1 classes (cw G τ (L ++ Lc)) T'.heap := by
    rw [cw_app, hold, e1]
    refine va_P.app (fun k x hx => ?_) hP1
    have hlt : k < (cw G σ L).length := (List.getElem?_eq_some_iff.mp hx).1
    obtain ⟨g1, g2⟩ := hapart k x hx
    exact (hP k x (by rw [List.getElem?_append_left hlt]; exact hx)).kept (hk x.1 g1 g2)
  have hDn : va_D A (cw G τ (L ++ Lc)) := by
    rw [cw_app, hold]
    refine va_D.app ⟨fun i j x y hx hy hxy => ?_, fun k x hx => ?_⟩ (hD1.weaken (fun k x _ h => hAA x.1 h)) (fun i j x y hx hy hxy => (hapart i x hx).2 (by rw [hxy]; exact hD1.2 j y hy))
    · have h1 : i < (cw G σ L).length := (List.getElem?_eq_some_iff.mp hx).1
      have h2 : j < (cw G σ L).length := (List.getElem?_eq_some_iff.mp hy).1
      exact hDD.1 i j x y (by rw [List.getElem?_append_left h1]; exact hx) (by rw [List.getElem?_append_left h2]; exact hy) hxy
    · have h1 : k < (cw G σ L).length := (List.getElem?_eq_some_iff.mp hx).1
      exact hDD.2 k x (by rw [List.getElem?_append_left h1]; exact hx)
  obtain ⟨q, hq1, hq2⟩ := hlb
  obtain ⟨t2, a1, b1⟩ := kk τ T'.heap (locs ++ L') hfr hq ⟨hPn, hDn, hS1, hR1, Or.inr ⟨q, List.mem_append_right _ hq1, hq2⟩⟩ T' rfl X'
  exact ⟨t2, go t2 a1, b1⟩
end Law4
/-- both objects new: the invariant of the plain valley -/
theorem inv0 {τ υ : St} (hC : PCV τ) (hM : PMD υ) (hf : FR (inL ((14, 0) :: LnX13)) τ υ) : INV (mV D0) υ := by
  obtain ⟨hA, c4, ⟨c32, c33⟩, ⟨c14, c15, c16, c17⟩, c64, c9, c1, c11, cz⟩ := hC
  obtain ⟨m1, m12, m13, m37, m35, m9, mz, m66⟩ := hM
  have io : ∀ q ∈ ((14, 0) :: LnX13), q.1 = 14 ∨ q.1 = 13 ∨ 66 ≤ q.1 := by decide +kernel
  have g : ∀ c i j, (c < 13 ∨ (20 ≤ c ∧ c < 66)) → υ c i j = τ c i j := fun c i j hc => hf c i j (fun z => by have := io _ z; simp only at this; omega)
  have z8 : ∀ j, υ 8 0 j = 0 := fun j => (g 8 0 j (by omega)).trans (cz (8, 0) (by decide +kernel) j)
  have z46 : ∀ j, υ 46 0 j = 0 := fun j => (g 46 0 j (by omega)).trans (cz (46, 0) (by decide +kernel) j)
  have z2 : ∀ j, υ 2 0 j = 0 := fun j => (g 2 0 j (by omega)).trans (cz (2, 0) (by decide +kernel) j)
  have z111 : ∀ j, υ 11 1 j = 0 := fun j => (g 11 1 j (by omega)).trans (cz (11, 1) (by decide +kernel) j)
  have z7 : ∀ j, υ 7 0 j = 0 := fun j => (g 7 0 j (by omega)).trans (cz (7, 0) (by decide +kernel) j)
  have m : ∀ k ∈ [2, 8, 55, 62, 71, 76, 81, 83, 84, 85], υ 14 0 k = 0 := mz
  refine ⟨⟨vok_mV dok0, hA.fr hf (fun c k hc z => by have := io _ z; simp only at this; omega), m1, m12, m35, ?_⟩, ⟨?_, ?_, fun k _ => ?_⟩, ⟨?_, ?_⟩, ⟨⟨fun z => absurd (z2 4) z, fun z => absurd (z2 5) z⟩, fun _ => ?_, fun k h0 hk => ?_, fun z => absurd (z2 6) z⟩, ⟨?_, ?_, fun h hh => ⟨?_, ?_⟩⟩, fun z => absurd m37 z, Or.inl ⟨m 55 (by decide), ?_⟩, Or.inl ⟨m 62 (by decide), ?_⟩, Or.inl ⟨?_, m 71 (by decide)⟩, Or.inl ⟨?_, m 76 (by decide)⟩, Or.inl ⟨z111 0, m 81 (by decide)⟩, ?_⟩
  · rw [g 10 0 4 (by omega), c4, m13]
  · rw [z8, m 2 (by decide)]
  · rw [z8]; omega
  · rw [z46, m66]; omega
  · rw [g 3 0 2 (by omega), c32, m 8 (by decide)]
  · rw [g 3 0 3 (by omega), c33, m9]
  · rw [g 12 0 15 (by omega)]; exact c15
  · rw [g 12 0 15 (by omega), c15] at hk; omega
  · rw [g 12 0 16 (by omega)]; exact Or.inl c16
  · rw [g 12 0 17 (by omega)]; exact Or.inl c17
  · have hh2 : (h : Int) < 2 := hh
    rw [g 64 0 h (by omega)]; exact Or.inl (c64 h (by omega)).1
  · have hh2 : (h : Int) < 2 := hh
    rw [g 65 0 h (by omega)]; exact Or.inl (c64 h (by omega)).2
  · rw [g 12 0 14 (by omega)]; exact c14
  · rw [g 9 0 0 (by omega)]; exact c9
  · rw [g 1 0 0 (by omega)]; exact c1
  · rw [g 11 0 0 (by omega)]; exact c11
  · refine ⟨by rw [z7, m 83 (by decide)], by rw [z7, m 84 (by decide)], by rw [z7, m 85 (by decide)], by rw [z7]; omega, by rw [z7]; omega, by rw [z7]; omega, fun k hk => ?_, fun k hk => ?_⟩
    · rw [z7] at hk; omega
    · rw [z7] at hk; omega
