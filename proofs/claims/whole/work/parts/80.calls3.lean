/-! ===== fault, end, feed, count, way, treeTo, fewest, tree ===== -/
section Calls3
variable {σ τ : St} {Q : Res → St → Prop} {V : Vy}
theorem PRC.same {MC MM : MI} {lc lm : List AV} (x : Int) (hI : INV V σ) (hc : ∀ Q : Res → St → Prop, Q (.inl (some (vI x))) σ → WP MC 0 lc [] σ Q) (hm : ∀ Q : Res → St → Prop, Q (.inl (some (vI x))) σ → WP MM 0 lm [] σ Q) : PRC MC MM lc lm σ := hc _ ⟨x, rfl, hm _ ⟨rfl, V, hI⟩⟩
theorem INV.tp (h : INV V σ) (f : FR (fun c i j => i = 0 ∧ (c = 8 ∨ c = 46 ∨ (c = 14 ∧ j = 2) ∨ c = 66)) σ τ) (h1 : ITP τ) : INV V τ := by
  obtain ⟨a1, a2, a3, a4, a5, a6, a7, a8, a9, a10, a11, a12⟩ := h
  refine ⟨a1.fr f ?_, h1, a3.fr f ?_, a4.fr f ?_, a5.fr f ?_, a6.fr f ?_, a7.fr f ?_, a8.fr f ?_, a9.fr f ?_, a10.fr f ?_, a11.fr f ?_, a12.fr f ?_⟩ <;> omega
theorem INV.wy (h : INV V σ) (f : FR (fun c i j => (kC c i j ∨ kM c i j) ∨ (i = 0 ∧ (c = 63 ∨ c = 91 ∨ (c = 12 ∧ j = 14) ∨ (c = 14 ∧ (j = 54 ∨ j = 55))))) σ τ) (h1 : ILD V τ) (h2 : ICC V τ) (h3 : IMD V τ) (h4 : IWY τ) : INV V τ := by
  obtain ⟨a1, a2, a3, a4, a5, a6, a7, a8, a9, a10, a11, a12⟩ := h
  refine ⟨a1.fr f ?_, a2.fr f ?_, a3.fr f ?_, h1, h2, h3, h4, a8.fr f ?_, a9.fr f ?_, a10.fr f ?_, a11.fr f ?_, a12.fr f ?_⟩ <;> (unfold kC kM; omega)
theorem INV.tre (h : INV V σ) (f : FR (fun c i j => (kC c i j ∨ kM c i j) ∨ (i = 0 ∧ (c = 47 ∨ c = 97 ∨ (c = 9 ∧ j = 0) ∨ (c = 14 ∧ (62 ≤ j ∧ j ≤ 64))))) σ τ) (h1 : ILD V τ) (h2 : ICC V τ) (h3 : IMD V τ) (h4 : ITR τ) : INV V τ := by
  obtain ⟨a1, a2, a3, a4, a5, a6, a7, a8, a9, a10, a11, a12⟩ := h
  refine ⟨a1.fr f ?_, a2.fr f ?_, a3.fr f ?_, h1, h2, h3, a7.fr f ?_, h4, a9.fr f ?_, a10.fr f ?_, a11.fr f ?_, a12.fr f ?_⟩ <;> (unfold kC kM; omega)
theorem pr_fault {w : Int} (hI : INV V σ) : PRC mX11_fault mX13_fault [vR 12 0, vI w] [vR 14 0, vI w] σ := by
  obtain ⟨e1, e2⟩ := hI.2.2.1
  by_cases w0 : w = 0
  · exact PRC.same (σ 3 0 2) hI (fun Q h => b_X11_fault_0 ⟨fun z => absurd w0 z, fun _ => h⟩) (fun Q h => b_X13_fault_0 ⟨fun z => absurd w0 z, fun _ => by rw [← e1]; exact h⟩)
  · by_cases w1 : w = 1
    · exact PRC.same (σ 3 0 3) hI (fun Q h => b_X11_fault_0 ⟨fun _ => ⟨fun z => absurd w1 z, fun _ => h⟩, fun z => absurd z w0⟩) (fun Q h => b_X13_fault_0 ⟨fun _ => ⟨fun z => absurd w1 z, fun _ => by rw [← e2]; exact h⟩, fun z => absurd z w0⟩)
    · exact PRC.same (-1) hI (fun Q h => b_X11_fault_0 ⟨fun _ => ⟨fun _ => h, fun z => absurd z w1⟩, fun z => absurd z w0⟩) (fun Q h => b_X13_fault_0 ⟨fun _ => ⟨fun _ => h, fun z => absurd z w1⟩, fun z => absurd z w0⟩)
theorem pr_end {n : Int} (hI : INV V σ) : PRC mX11_end mX13_end [vR 12 0, vI n] [vR 14 0, vI n] σ := by
  obtain ⟨e1, e2, e3⟩ := hI.2.1
  by_cases h : 0 ≤ n ∧ n ≤ σ 8 0 1
  · refine b_X11_end_0 ⟨fun z => by omega, fun _ => ⟨fun _ => ⟨n, rfl, ?_⟩, fun z => by omega⟩⟩
    refine b_X13_end_0 ?_
    rw [up_c (by omega)]
    refine ⟨fun _ => ⟨rfl, V, ?_⟩, fun z => absurd ⟨h.1, by omega⟩ z⟩
    refine hI.tp ((FR.rf.u ⟨rfl, by omega⟩).u ⟨rfl, by omega⟩) ⟨?_, ?_, fun k hk => ?_⟩
    · rw [up_s, up_c (by omega), up_s]
    · rw [up_c (by omega), up_s]; omega
    · rw [up_c (by omega), up_c (by omega), up_c (by omega), up_c (by omega)]; exact e3 k hk
  · exact PRC.same (-1) hI (fun Q h' => b_X11_end_0 ⟨fun _ => h', fun z => ⟨fun z2 => absurd ⟨z, z2⟩ h, fun _ => h'⟩⟩) (fun Q h' => b_X13_end_0 ⟨fun z => absurd ⟨z.1, by omega⟩ h, fun _ => h'⟩)
theorem pr_count {w : Int} (hI : INV V σ) : PRC mX11_count mX13_count [vR 12 0, vI w] [vR 14 0, vI w] σ := by
  have e0 := hI.1.2.2.2.2.2
  obtain ⟨e3, _⟩ := hI.2.1
  obtain ⟨e1, e2, _⟩ := hI.2.2.2.2.2.2.2.2.2.2.2
  by_cases w0 : w = 0
  · exact PRC.same (σ 10 0 4) hI (fun Q h => b_X11_count_0 ⟨fun _ => h, fun z => by omega, fun z => by omega, fun z => by omega, fun z => by omega⟩) (fun Q h => b_X13_count_0 ⟨fun _ => by rw [← e0]; exact h, fun z => by omega, fun z => by omega, fun z => by omega, fun z => by omega⟩)
  · by_cases w1 : w = 1
    · exact PRC.same (σ 7 0 0) hI (fun Q h => b_X11_count_0 ⟨fun z => by omega, fun _ => h, fun z => by omega, fun z => by omega, fun z => by omega⟩) (fun Q h => b_X13_count_0 ⟨fun z => by omega, fun _ => by rw [← e1]; exact h, fun z => by omega, fun z => by omega, fun z => by omega⟩)
    · by_cases w2 : w = 2
      · exact PRC.same (σ 7 0 1) hI (fun Q h => b_X11_count_0 ⟨fun z => by omega, fun z => by omega, fun _ => h, fun z => by omega, fun z => by omega⟩) (fun Q h => b_X13_count_0 ⟨fun z => by omega, fun z => by omega, fun _ => by rw [← e2]; exact h, fun z => by omega, fun z => by omega⟩)
      · by_cases w3 : w = 3
        · exact PRC.same (σ 8 0 1) hI (fun Q h => b_X11_count_0 ⟨fun z => by omega, fun z => by omega, fun z => by omega, fun _ => h, fun z => by omega⟩) (fun Q h => b_X13_count_0 ⟨fun z => by omega, fun z => by omega, fun z => by omega, fun _ => by rw [← e3]; exact h, fun z => by omega⟩)
        · exact PRC.same (-1) hI (fun Q h => b_X11_count_0 ⟨fun z => by omega, fun z => by omega, fun z => by omega, fun z => by omega, fun _ => h⟩) (fun Q h => b_X13_count_0 ⟨fun z => by omega, fun z => by omega, fun z => by omega, fun z => by omega, fun _ => h⟩)
theorem pr_way {k : Int} (hI : INV V σ) : PRC mX11_way mX13_way [vR 12 0, vI k] [vR 14 0, vI k] σ := by
  rcases hI.2.2.2.2.2.2.1 with ⟨e1, e2⟩ | ⟨e1, e2, e3, e4, e5⟩
  · refine PRC.same (-1) hI (fun Q h => b_X11_way_0 ⟨fun _ => ⟨fun _ => h, fun z => ⟨fun _ => h, fun z2 => by omega⟩⟩, fun _ => by rw [e2]; exact h⟩) (fun Q h => b_X13_way_0 ⟨fun z => absurd e1 z, fun _ => h⟩)
  · by_cases k1 : k = -1
    · exact PRC.same (σ 12 0 14) hI (fun Q h => b_X11_way_0 ⟨fun z => absurd k1 z, fun _ => h⟩) (fun Q h => b_X13_way_0 ⟨fun _ => ⟨fun z => absurd k1 z, fun _ => by rw [← e4]; exact h⟩, fun z => absurd z e1⟩)
    · by_cases q : 0 ≤ k ∧ k ≤ σ 12 0 14
      · exact PRC.same (σ 63 0 k.toNat) hI (fun Q h => b_X11_way_0 ⟨fun _ => ⟨fun z => by omega, fun _ => ⟨fun z => by omega, fun _ => ⟨fun z => by omega, fun _ => ⟨by omega, h⟩⟩⟩⟩, fun z => absurd z k1⟩) (fun Q h => b_X13_way_0 ⟨fun _ => ⟨fun _ => ⟨fun z => absurd ⟨q.1, by omega⟩ z, fun _ => ⟨by omega, by rw [← e5 k.toNat (by omega)]; exact h⟩⟩, fun z => absurd z k1⟩, fun z => absurd z e1⟩)
      · exact PRC.same (-1) hI (fun Q h => b_X11_way_0 ⟨fun _ => ⟨fun _ => h, fun z => ⟨fun _ => h, fun z2 => absurd ⟨z, z2⟩ q⟩⟩, fun z => absurd z k1⟩) (fun Q h => b_X13_way_0 ⟨fun _ => ⟨fun _ => ⟨fun _ => h, fun z => absurd ⟨z.1, by omega⟩ q⟩, fun z => absurd z k1⟩, fun z => absurd z e1⟩)
theorem pr_treeTo {k : Int} (hI : INV V σ) : PRC mX11_treeTo mX13_treeTo [vR 12 0, vI k] [vR 14 0, vI k] σ := by
  rcases hI.2.2.2.2.2.2.2.1 with ⟨e1, e2⟩ | ⟨e1, e2, e3, e4, e5⟩
  · refine PRC.same (-1) hI (fun Q h => b_X11_treeTo_0 ⟨by omega, ?_⟩) (fun Q h => b_X13_treeTo_0 ⟨fun _ => h, fun z => absurd e1 z⟩)
    rw [if_neg (fun z => by omega)]; exact h
  · by_cases q : 0 ≤ k ∧ k < σ 9 0 0
    · refine PRC.same (σ 47 0 k.toNat) hI (fun Q h => b_X11_treeTo_0 ⟨e4, ?_⟩) (fun Q h => b_X13_treeTo_0 ⟨fun z => absurd z e1, fun _ => ⟨by unfold in64; omega, fun z => absurd ⟨q.1, by omega⟩ z, fun z => ⟨by omega, ?_⟩⟩⟩)
      · rw [if_pos q]; exact h
      · rw [← e5 k.toNat (by omega)]; exact h
    · refine PRC.same (-1) hI (fun Q h => b_X11_treeTo_0 ⟨e4, ?_⟩) (fun Q h => b_X13_treeTo_0 ⟨fun z => absurd z e1, fun _ => ⟨by unfold in64; omega, fun _ => h, fun z => absurd ⟨z.1, by omega⟩ q⟩⟩)
      rw [if_neg q]; exact h
theorem pr_fewest {s t : Int} (hI : INV V σ) : PRC mX11_fewest mX13_fewest [vR 12 0, vI s, vI t, vU] [vR 14 0, vI s, vI t, vU, vU, vU, vU, vU] σ := by
  have hV := hI.1.1
  have hA := hI.1.2.1
  have hT := hI.1.2.2.1
  refine b_X11_fewest_0 (c_isState hV hA.1 hA.2.1 ?_)
  show WP mX11_fewest 11 [vR 12 0, vI s, vI t, vU] [vI (b2 (isSt V s))] σ _
  refine b_X11_fewest_11 ⟨fun z => ⟨-2, rfl, ?_⟩, fun zs => ?_⟩
  · refine b_X13_fewest_0 (d_isState hV hT ?_)
    show WP mX13_fewest 5 [vR 14 0, vI s, vI t, vU, vU, vU, vU, vU] [vI (b2 (isSt V s))] σ _
    exact b_X13_fewest_5 ⟨fun _ => ⟨rfl, V, hI⟩, fun z' => absurd z z'⟩
  refine c_isState hV hA.1 hA.2.1 ?_
  show WP mX11_fewest 25 [vR 12 0, vI s, vI t, vU] [vI (b2 (isSt V t))] σ _
  refine b_X11_fewest_25 ⟨fun zt => ?_, fun z => ⟨-2, rfl, ?_⟩⟩
  rotate_left
  · refine b_X13_fewest_0 (d_isState hV hT ?_)
    show WP mX13_fewest 5 [vR 14 0, vI s, vI t, vU, vU, vU, vU, vU] [vI (b2 (isSt V s))] σ _
    refine b_X13_fewest_5 ⟨fun z => absurd z zs, fun _ => d_isState hV hT ?_⟩
    show WP mX13_fewest 13 [vR 14 0, vI s, vI t, vU, vU, vU, vU, vU] [vI (b2 (isSt V t))] σ _
    exact b_X13_fewest_13 ⟨fun z' => absurd z z', fun _ => ⟨rfl, V, hI⟩⟩
  have hs := b2_ne zs
  have ht := b2_ne zt
  obtain ⟨F, hD⟩ := dist_ex hV (Tg := fun x => x = t) ht rfl
  have hle := hD.le hV ht rfl s hs
  have hF0 := (hD s hs).1
  refine c_readyI hV hA hI.2.2.2.1 hI.2.2.2.2.1 (fun τ f1 t1 t2 t3 t4 t5 t6 t7 => ?_)
  show WP mX11_fewest 38 [vR 12 0, vI s, vI t, vU] [] τ _
  refine b_X11_fewest_38 (c_toState (F := F) hV t1 t2 ht hs hD (fun υ L u1 u2 u3 => ?_))
  show WP mX11_fewest 51 [vR 12 0, vI s, vI t, vU] [vI (F s / 4096)] υ _
  have v1 : VA υ 0 V := t1.fr u1 (fun c k hc z => by unfold sP at z; omega)
  have v2 : REP υ 0 V := t2.fr u1 (fun k z => by unfold sP at z; omega)
  refine b_X11_fewest_51 ⟨fun _ => c_countMoves hV v1 v2 ht hs hD u2 u3 (fun ω o1 o2 => ?_), fun z => by omega⟩
  show WP mX11_fewest 73 [vR 12 0, vI s, vU, vI (F s / 4096)] [] ω _
  have w1 : VA ω 0 V := v1.fr o1 (fun c k hc z => by unfold hpP at z; omega)
  have w2 : REP ω 0 V := v2.fr o1 (fun k z => by unfold hpP at z; omega)
  have eK : Kf ω 0 = Kf υ 0 := by funext x; exact o1 37 0 _ (fun z => by unfold hpP at z; omega)
  refine b_X11_fewest_73 (c_trace hV w1 w2 ht hs hD (by rw [eK]; exact u2) u3 o2 (fun ρ p1 p2 => ?_))
  show WP mX11_fewest 90 [vU, vU, vU, vI (F s / 4096)] [vI (F s % 4096), vR 12 0] ρ _
  refine b_X11_fewest_90 ⟨F s / 4096, rfl, ?_⟩
  have hcm := hD.cm hV s hs
  -- the class has run
  have G1 : FR (fun c i j => (kC c i j ∨ kM c i j) ∨ (i = 0 ∧ (c = 63 ∨ c = 91 ∨ (c = 12 ∧ j = 14) ∨ (c = 14 ∧ (j = 54 ∨ j = 55))))) τ ρ := ((u1.wk (fun c i j z => by unfold sP at z; unfold kC; omega)).tr (o1.wk (fun c i j z => by unfold hpP at z; unfold kC; omega))).tr (p1.wk (fun c i j z => by unfold wsP at z; omega))
  have G2 : FR (fun c i j => (kC c i j ∨ kM c i j) ∨ (i = 0 ∧ (c = 63 ∨ c = 91 ∨ (c = 12 ∧ j = 14) ∨ (c = 14 ∧ (j = 54 ∨ j = 55))))) σ ρ := (f1.wk (fun c i j z => Or.inl (Or.inl z))).tr G1
  have G3 : FR (fun c i j => i = 0 ∧ (c = 6 ∨ c = 63 ∨ (37 ≤ c ∧ c ≤ 39) ∨ (c = 12 ∧ j = 14))) τ (up ρ 12 0 14 (F s % 4096)) := (((u1.wk (fun c i j z => by unfold sP at z; omega)).tr (o1.wk (fun c i j z => by unfold hpP at z; omega))).tr (p1.wk (fun c i j z => by unfold wsP at z; omega))).u (by omega)
  have L1 : ILD V (up ρ 12 0 14 (F s % 4096)) := t6.fr G3 (by omega)
  have C1 : ICC V (up ρ 12 0 14 (F s % 4096)) := t7.fr G3 (by omega)
  have G4 := G2.u (x := F s % 4096) (c := 12) (i := 0) (j := 14) (by omega)
  have c14 : (up ρ 12 0 14 (F s % 4096)) 12 0 14 = F s % 4096 := up_s _ _ _ _ _
  have c63 : ∀ x, (up ρ 12 0 14 (F s % 4096)) 63 0 x = ρ 63 0 x := fun x => up_c (by omega)
  have G5 : FR (fun c i _ => c < 66 ∧ ¬ (c = 14 ∧ i = 0)) σ (up ρ 12 0 14 (F s % 4096)) := (f1.wk (fun c i j z => by unfold kC at z; omega)).tr (G3.wk (fun c i j z => by omega))
  generalize (up ρ 12 0 14 (F s % 4096)) = κ at *
  have IV : IVV V κ := hI.1.fr G4 (by unfold kC kM; omega)
  have IM : IMD V κ := hI.2.2.2.2.2.1.fr G5 (by omega)
  refine b_X13_fewest_0 (d_isState hV IV.2.2.1 ?_)
  show WP mX13_fewest 5 [vR 14 0, vI s, vI t, vU, vU, vU, vU, vU] [vI (b2 (isSt V s))] κ _
  refine b_X13_fewest_5 ⟨fun z => absurd z zs, fun _ => d_isState hV IV.2.2.1 ?_⟩
  show WP mX13_fewest 13 [vR 14 0, vI s, vI t, vU, vU, vU, vU, vU] [vI (b2 (isSt V t))] κ _
  refine b_X13_fewest_13 ⟨fun _ => d_makeI IV IM (fun μ m1 m2 m3 m4 m5 => ?_), fun z => absurd z zt⟩
  show WP mX13_fewest 23 [vR 14 0, vI s, vI t, vU, vU, vU, vU, vU] [] μ _
  refine b_X13_fewest_23 (d_markState hV m2.2.2.1 m3 ht (fun ν n1 n2 => ?_))
  have n3 : MRP ν V := m3.fr n1 (fun c j hc z => by unfold mkP at z; omega)
  refine d_trace (F := far ν) hV (m2.2.2.1.fr n1 (fun c j hc z => by unfold mkP at z; omega)) n3 ht hs (fun x => rfl) n2 (fun π q1 q2 q3 q4 => ?_)
  have eF := hD.uniq hV n2
  have K1 : FR (fun c i j => kM c i j ∨ (i = 0 ∧ (c = 91 ∨ (c = 14 ∧ (j = 54 ∨ j = 55))))) κ π := ((m1.wk (fun c i j z => Or.inl z)).tr (n1.wk (fun c i j z => by unfold mkP at z; unfold kM; omega))).tr (q1.wk (fun c i j z => by unfold wyP at z; omega))
  have hun := WAY.un hV hs eF p2 q4
  have e63 : ∀ x, π 63 0 x = ρ 63 0 x := fun x => by rw [K1 63 0 x (fun z => by unfold kM at z; omega)]; exact c63 x
  have e14 : π 12 0 14 = F s % 4096 := by rw [K1 12 0 14 (fun z => by unfold kM at z; omega)]; exact c14
  refine ⟨by rw [eF s hs], V, hI.wy (G4.tr (K1.wk (fun c i j z => z.elim (fun a => Or.inl (Or.inr a)) (fun b => Or.inr (by omega))))) (L1.fr K1 (by unfold kM; omega)) (C1.fr K1 (by unfold kM; omega)) ?_ (Or.inr ⟨by omega, ?_, ?_, ?_, fun k hk => ?_⟩)⟩
  · have K2 : FR (fun c i j => i = 0 ∧ (c = 89 ∨ c = 90 ∨ c = 91 ∨ (c = 14 ∧ (j = 54 ∨ j = 55)))) μ π := (n1.wk (fun c i j z => by unfold mkP at z; omega)).tr (q1.wk (fun c i j z => by unfold wyP at z; omega))
    exact m5.fr K2 (by omega)
  · rw [e14]; omega
  · rw [e14]; omega
  · rw [e14, q3, ← eF s hs]
  · rw [e14] at hk
    rw [e63]
    exact hun.2 k (by omega)
theorem pr_tree {k : Int} (hI : INV V σ) : PRC mX11_tree mX13_tree [vR 12 0, vI k] [vR 14 0, vI k, vU, vU, vU] σ := by
  have hV := hI.1.1
  have hA := hI.1.2.1
  refine b_X11_tree_0 (c_readyI hV hA hI.2.2.2.1 hI.2.2.2.2.1 (fun τ f1 t1 t2 t3 t4 t5 t6 t7 => ?_))
  show WP mX11_tree 7 [vR 12 0, vI k] [] τ _
  have IV1 : IVV V τ := hI.1.fr f1 (by unfold kC; omega)
  have IM1 : IMD V τ := hI.2.2.2.2.2.1.fr f1 (by unfold kC; omega)
  have hn0 := t3.1.2.2.2.2
  -- it is refused
  have ref : ∀ x, (∀ υ, MRS υ V → ((x = -2 ∧ ¬ (0 ≤ k ∧ k < υ 14 0 51)) ∨ (x = -3 ∧ (0 ≤ k ∧ k < υ 14 0 51) ∧ 12 < υ 14 0 51))) → WP mX13_tree 0 [vR 14 0, vI k, vU, vU, vU] [] τ (fun r' υ => r' = .inl (some (vI x)) ∧ ∃ V, INV V υ) := fun x hx => by
    refine b_X13_tree_0 (d_isRestI IV1 IM1 (fun υ f2 u1 u2 u3 u4 => ?_))
    show WP mX13_tree 5 [vR 14 0, vI k, vU, vU, vU] [vI (b2 (0 ≤ k ∧ k < υ 14 0 51))] υ _
    have fin : INV V υ := hI.ca ((f1.wk (fun c i j z => Or.inl z)).tr (f2.wk (fun c i j z => Or.inr z))) (t6.fr f2 (by unfold kM; omega)) (t7.fr f2 (by unfold kM; omega)) u4
    rcases hx υ u3 with ⟨e, z⟩ | ⟨e, z, z2⟩
    · refine b_X13_tree_5 ⟨fun q => absurd (b2_ne q) z, fun _ => ⟨by rw [e], V, fin⟩⟩
    · refine b_X13_tree_5 ⟨fun q => ⟨fun q2 => by omega, fun _ => ⟨by rw [e], V, fin⟩⟩, fun q => absurd z (b2_eq q)⟩
  refine b_X11_tree_7 ⟨fun z => ⟨fun z12 => ?_, fun z12 => ⟨-3, rfl, ref _ (fun υ hυ => ?_)⟩⟩, fun z => ⟨-2, rfl, ref _ (fun υ hυ => ?_)⟩⟩
  rotate_left
  · have := (t3.1.uniq hV hυ.1).2
    exact Or.inr ⟨rfl, by omega, by omega⟩
  · have := (t3.1.uniq hV hυ.1).2
    exact Or.inl ⟨rfl, by omega⟩
  obtain ⟨N, hN⟩ : ∃ N : Nat, τ 5 0 0 = N := ⟨(τ 5 0 0).toNat, by omega⟩
  obtain ⟨root, rfl⟩ : ∃ r : Nat, k = r := ⟨k.toNat, by omega⟩
  refine c_measure hV t1 t2 t3 z12 (fun z => (t6.2.2.2 z).2) (fun υ u1 u2 u3 => ?_)
  show WP mX11_tree 53 [vR 12 0, vI (root : Int)] [] υ _
  have v5 : υ 5 0 0 = (N : Nat) := by rw [u1 5 0 0 (fun z => by unfold meP sP at z; omega)]; exact hN
  have v3 : RS υ 0 V := t3.fr u1 (fun c k hc z => by unfold meP sP at z; omega)
  refine b_X11_tree_53 (c_grow (N := N) v5 (by omega) (by omega) (fun a b ha hb => u3.bd hV v3 (by omega) (by omega)) (fun ω L g o1 o2 o3 o4 o5 => ?_))
  show WP mX11_tree 65 [vU, vU] [vI L] ω _
  refine b_X11_tree_65 ⟨L, rfl, ?_⟩
  have G1 : FR (fun c i j => (kC c i j ∨ kM c i j) ∨ (i = 0 ∧ (c = 47 ∨ c = 97 ∨ (c = 9 ∧ j = 0) ∨ (c = 14 ∧ (62 ≤ j ∧ j ≤ 64))))) σ ω := ((f1.wk (fun c i j z => Or.inl (Or.inl z))).tr (u1.wk (fun c i j z => by unfold meP sP at z; unfold kC; omega))).tr (o1.wk (fun c i j z => by unfold grP at z; unfold kC; omega))
  have G5 : FR (fun c i _ => c < 66 ∧ ¬ (c = 14 ∧ i = 0)) τ ω := (u1.wk (fun c i j z => by unfold meP sP at z; omega)).tr (o1.wk (fun c i j z => by unfold grP at z; omega))
  have G3 : FR (fun c i j => i = 0 ∧ (c = 9 ∨ c = 6 ∨ c = 22 ∨ c = 37 ∨ c = 39 ∨ (47 ≤ c ∧ c ≤ 53) ∨ (c = 2 ∧ j = 6))) τ ω := (u1.wk (fun c i j z => by unfold meP sP at z; omega)).tr (o1.wk (fun c i j z => by unfold grP at z; omega))
  have u3' : BT ω 0 V := u3.fr o1 (fun c j hc z => by unfold grP at z; omega)
  have e25 : ω 2 0 5 = τ 2 0 5 := G3 2 0 5 (fun z => by omega)
  have L1 : ILD V ω := ⟨t6.1.fr G3 (fun c j hc z => by omega), fun z => by omega, t6.2.2.1.fr G3 ⟨fun z => by omega, fun k z => by omega, fun k z => by omega⟩, fun _ => ⟨by omega, u3'⟩⟩
  have C1 : ICC V ω := t7.fr G3 (by omega)
  have IV : IVV V ω := hI.1.fr G1 (by unfold kC kM; omega)
  have IM : IMD V ω := IM1.fr G5 (by omega)
  refine b_X13_tree_0 (d_isRestI IV IM (fun μ m1 m2 m3 m4 m5 => ?_))
  show WP mX13_tree 5 [vR 14 0, vI (root : Int), vU, vU, vU] [vI (b2 (0 ≤ (root : Int) ∧ (root : Int) < μ 14 0 51))] μ _
  obtain ⟨e1, e2⟩ := v3.1.uniq hV m4.1
  have hN' : μ 14 0 51 = (N : Nat) := by rw [← e2]; exact v5
  refine b_X13_tree_5 ⟨fun _ => ⟨fun _ => ?_, fun z => by omega⟩, fun q => absurd ⟨by omega, by omega⟩ (b2_eq q)⟩
  refine d_tree (N := N) hV m2.2.2.1 m3 m4 hN' (by omega) (by omega) (fun π L' g' q1 q2 q3 q4 q5 q6 q7 => ?_)
  have ew : ∀ a b, a < N → b < N → a ≠ b → btw υ 0 a b = wC π a b := fun a b ha hb hne => by
    obtain ⟨s, s1, s2⟩ := v3.1.2.2.2.1 (b : Int) (by omega) (by omega)
    obtain ⟨t, w1, w2⟩ := v3.1.2.2.2.1 (a : Int) (by omega) (by omega)
    obtain ⟨F, hD⟩ := dist_ex hV (Tg := fun x => hm υ 0 x = (b : Int)) s1.1 s2
    unfold btw wC
    rw [u3 a b (by omega) (by omega) F hD t w1.1 w2, (q2 a b (by omega) (by omega)).2 hne F (hD.cg (fun s hs => by rw [e1 s hs])) t w1.1 (by rw [← e1 t w1.1]; exact w2)]
  have eL : L = L' := (o2.cg ew).un q3
  subst eL
  have eg := GT.un (o3.cg ew) q4
  have K1 : FR (fun c i j => kM c i j ∨ (i = 0 ∧ (c = 97 ∨ (c = 14 ∧ (62 ≤ j ∧ j ≤ 64))))) ω π := (m1.wk (fun c i j z => Or.inl z)).tr (q1.wk (fun c i j z => by unfold mtP wwP coP mkP smP at z; unfold kM; omega))
  have e90 : π 9 0 0 = (N : Nat) := by rw [K1 9 0 0 (fun z => by unfold kM at z; omega)]; exact o4
  refine ⟨rfl, V, hI.tre (G1.tr (K1.wk (fun c i j z => z.elim (fun a => Or.inl (Or.inr a)) (fun b => Or.inr (by omega))))) (L1.fr K1 (by unfold kM; omega)) (C1.fr K1 (by unfold kM; omega)) (m5.fr q1 (by unfold mtP wwP coP mkP smP; omega)) (Or.inr ⟨q5, by rw [e90, q6], by omega, by omega, fun a ha => ?_⟩)⟩
  rw [e90] at ha
  rw [K1 47 0 a (fun z => by unfold kM at z; omega), o5 a (by omega), q7 a (by omega)]
  by_cases e : a = root
  · rw [if_pos e, if_pos e]
  · rw [if_neg e, if_neg e, eg a (by omega) e]
end Calls3
