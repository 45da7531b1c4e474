/-! ===== judge: both ===== -/
section Judge2
variable {σ τ : St} {Q : Res → St → Prop} {V : Vy} {home : Int → Int}
theorem INV.jdd (hI : INV V σ) (f : FR (fun c i j => (kC c i j ∨ kM c i j) ∨ (i = 0 ∧ c = 8) ∨ (i = 1 ∧ c = 11) ∨ (i = 0 ∧ c = 14 ∧ (j = 2 ∨ (78 ≤ j ∧ j ≤ 82)))) σ τ) (h0 : ITP τ) (h1 : ILD V τ) (h2 : ICC V τ) (h3 : IMD V τ) (h4 : IJD τ) : INV V τ := by
  obtain ⟨a1, a2, a3, a4, a5, a6, a7, a8, a9, a10, a11, a12⟩ := hI
  refine ⟨a1.fr f ?_, h0, a3.fr f ?_, h1, h2, h3, a7.fr f ?_, a8.fr f ?_, a9.fr f ?_, a10.fr f ?_, h4, a12.fr f ?_⟩ <;> (unfold kC kM; omega)
theorem jit_cg {B B' : Nat → Int} {s : Int} {m : Nat} (hB : ∀ k, k < 2 * m → B k = B' k) : ∀ k, k ≤ m → jit V home B s k = jit V home B' s k := by
  intro k
  induction k with
  | zero => intro _; rfl
  | succ k ih =>
    intro hk
    rw [jit, jit, ih (by omega)]
    unfold jp jh
    rw [hB (2 * k) (by omega), hB (2 * k + 1) (by omega)]
theorem JE_cg {B B' : Nat → Int} {m k : Nat} (hB : ∀ k, k < 2 * m → B k = B' k) (h : JE V B m k) : JE V B' m k := by
  have e : ∀ k', k' < m → (jv V B k' ↔ jv V B' k') := fun k' hk' => by
    unfold jv jp jh
    rw [hB (2 * k') (by omega), hB (2 * k' + 1) (by omega)]
  exact ⟨h.1, fun k' hk' => (e k' (by have := h.1; omega)).mp (h.2.1 k' hk'), fun hk z => h.2.2 hk ((e k hk).mpr z)⟩
theorem pr_judge {s : Int} (hI : INV V σ) : PRC mX11_judge mX13_judge [vR 12 0, vI s, vU] [vR 14 0, vI s, vU, vU, vU, vU, vU] σ := by
  have hV := hI.1.1
  obtain ⟨e1, e2, e3⟩ := hI.2.1
  -- the tape is empty then
  have f1 : FR (fun c i j => c = 8 ∧ i = 0 ∧ j = 1) σ (up σ 8 0 1 0) := FR.rf.u ⟨rfl, rfl, rfl⟩
  have c81 : (up σ 8 0 1 0) 8 0 1 = 0 := up_s _ _ _ _ _
  refine b_X11_judge_0 ?_
  generalize up σ 8 0 1 0 = σ1 at *
  have hA : VA σ1 0 V := hI.1.2.1.fr f1 (fun c k hc z => by omega)
  have IV1 : IVV V σ1 := hI.1.fr f1 (by omega)
  have L1 : ILD V σ1 := hI.2.2.2.1.fr f1 (by omega)
  have C1 : ICC V σ1 := hI.2.2.2.2.1.fr f1 (by omega)
  have e142 : σ1 14 0 2 = σ 8 0 1 := by rw [f1 14 0 2 (fun z => by omega)]; exact e1.symm
  have e46 : ∀ x, σ1 46 0 x = σ 46 0 x := fun x => f1 46 0 x (fun z => by omega)
  have e66 : ∀ x, σ1 66 0 x = σ 66 0 x := fun x => f1 66 0 x (fun z => by omega)
  -- refused by both
  have ref : ∀ x : Int, (∀ (υ : St) (Q : Res → St → Prop), MT υ V → (∀ τ, τ = υ → Q (.inl (some (vI x))) τ) → WP mX13_judge 15 [vR 14 0, vI s, vI (σ 8 0 1), vU, vU, vU, vU] [vI (b2 (isSt V s))] υ Q) → WP mX13_judge 0 [vR 14 0, vI s, vU, vU, vU, vU, vU] [] σ1 (fun r' υ => r' = .inl (some (vI x)) ∧ ∃ V, INV V υ) := fun x hx => by
    refine b_X13_judge_0 ?_
    rw [e142]
    have f2 : FR (fun c i j => i = 0 ∧ (c = 8 ∨ c = 46 ∨ (c = 14 ∧ j = 2) ∨ c = 66)) σ (up σ1 14 0 2 0) := (f1.wk (fun c i j z => by omega)).u (by omega)
    have hT2 : MT (up σ1 14 0 2 0) V := hI.1.2.2.1.fr f2 (fun c j hc z => by omega)
    refine d_isState hV hT2 (hx _ _ hT2 (fun τ hτ => ⟨rfl, V, ?_⟩))
    rw [hτ]
    refine hI.tp f2 ⟨?_, ?_, fun k hk => ?_⟩
    · rw [up_s, up_c (by omega)]; exact c81
    · rw [up_c (by omega), c81]; omega
    · rw [up_c (by omega), up_c (by omega), e46, e66]; exact e3 k hk
  refine c_isState hV hA.1 hA.2.1 ?_
  show WP mX11_judge 27 [vR 12 0, vI s, vI (σ 8 0 1)] [vI (b2 (isSt V s))] σ1 _
  refine b_X11_judge_27 ⟨fun zs => ⟨by omega, fun zo => ⟨-1, rfl, ref _ (fun υ Q _ hq => b_X13_judge_15 ⟨fun _ => ⟨by omega, fun _ => hq υ rfl, fun z => by omega⟩, fun z => absurd z zs⟩)⟩, fun ze => ⟨fun z120 => ?_, fun z120 => ⟨-1, rfl, ref _ (fun υ Q _ hq => b_X13_judge_15 ⟨fun _ => ⟨by omega, fun z => by omega, fun _ => ⟨fun z => by omega, fun _ => hq υ rfl⟩⟩, fun z => absurd z zs⟩)⟩⟩⟩, fun zs => ⟨-2, rfl, ref _ (fun υ Q _ hq => b_X13_judge_15 ⟨fun z => absurd zs z, fun _ => hq υ rfl⟩)⟩⟩
  have hs := b2_ne zs
  obtain ⟨m, hmm⟩ : ∃ m : Nat, σ 8 0 1 = 2 * (m : Int) := ⟨(σ 8 0 1 / 2).toNat, by omega⟩
  refine c_readyI hV hA L1 C1 (fun τ g1 t1 t2 t3 t4 t5 t6 t7 => ?_)
  show WP mX11_judge 54 [vR 12 0, vI s, vI (σ 8 0 1)] [] τ _
  refine b_X11_judge_54 ⟨by omega, ?_⟩
  rw [hmm, show 2 * (m : Int) / 2 = (m : Int) by omega]
  have g46 : ∀ x, τ 46 0 x = σ 46 0 x := fun x => by rw [g1 46 0 x (fun z => by unfold kC at z; omega)]; exact e46 x
  refine c_follow (home := hm τ 0) (m := m) hV t1 t2 (fun s' _ => rfl) hs (by omega) (fun k hk => by rw [g46]; exact (e3 k hk).2) (fun υ k u1 u2 u3 u4 u5 => ?_)
  show WP mX11_judge 73 [vU, vU, vU] [vI (k : Int)] υ _
  refine b_X11_judge_73 ⟨_, rfl, ?_⟩
  have G1 : FR (fun c i j => kC c i j ∨ (i = 0 ∧ c = 8) ∨ (i = 1 ∧ c = 11)) σ υ := ((f1.wk (fun c i j z => by unfold kC; omega)).tr (g1.wk (fun c i j z => Or.inl z))).tr (u1.wk (fun c i j z => by unfold kC; omega))
  have g142 : υ 14 0 2 = 2 * (m : Int) := by rw [G1 14 0 2 (fun z => by unfold kC at z; omega), ← e1]; exact hmm
  have IV : IVV V υ := hI.1.fr G1 (by unfold kC; omega)
  have IM : IMD V υ := hI.2.2.2.2.2.1.fr G1 (by unfold kC; omega)
  refine b_X13_judge_0 ?_
  rw [g142]
  have f2 : FR (fun c i j => c = 14 ∧ i = 0 ∧ j = 2) υ (up υ 14 0 2 0) := FR.rf.u ⟨rfl, rfl, rfl⟩
  have k2 : (up υ 14 0 2 0) 14 0 2 = 0 := up_s _ _ _ _ _
  generalize up υ 14 0 2 0 = ω at *
  have hTo : MT ω V := IV.2.2.1.fr f2 (fun c j hc z => by omega)
  refine d_isState hV hTo ?_
  show WP mX13_judge 15 [vR 14 0, vI s, vI (2 * (m : Int)), vU, vU, vU, vU] [vI (b2 (isSt V s))] ω _
  refine b_X13_judge_15 ⟨fun _ => ⟨by omega, fun z => by omega, fun _ => ⟨fun _ => ?_, fun z => by omega⟩⟩, fun z => absurd hs (b2_eq z)⟩
  have f3 : FR juP ω (up (up ω 14 0 78 0) 14 0 79 0) := (FR.rf.u (by unfold juP; omega)).u (by unfold juP; omega)
  have k78 : (up (up ω 14 0 78 0) 14 0 79 0) 14 0 78 = 0 := by rw [up_j (by omega), up_s]
  have k79 : (up (up ω 14 0 78 0) 14 0 79 0) 14 0 79 = 0 := up_s _ _ _ _ _
  generalize (up (up ω 14 0 78 0) 14 0 79 0) = ρ at *
  have r66 : ∀ x, ρ 66 0 x = σ 66 0 x := fun x => by rw [f3 66 0 x (fun z => by unfold juP at z; omega), f2 66 0 x (fun z => by omega)]; exact G1 66 0 x (fun z => by unfold kC at z; omega)
  have r12 : ρ 14 0 12 = an V := by rw [f3 14 0 12 (fun z => by unfold juP at z; omega), f2 14 0 12 (fun z => by omega)]; exact IV.2.2.2.1
  have hBB : ∀ k, k < 2 * m → ρ 66 0 k = τ 46 0 k := fun k hk => by rw [r66, g46]; exact (e3 k (by omega)).1.symm
  refine d_follow (home := hm τ 0) (m := m) hV (hTo.fr f3 (fun c j hc z => by unfold juP at z; omega)) r12 hs (by omega) (fun k hk => by rw [r66]; have := e3 k hk; omega) k78 k79 (fun π k' q1 q2 q3 q4 q5 q6 q7 => ?_)
  have ek : k' = k := (JE_cg hBB q3).un u3
  subst ek
  have hjj := jit_cg (V := V) (home := hm τ 0) (s := s) hBB k' q3.1
  rw [hjj] at q4 q5 q6
  have K1 : FR (fun c i j => i = 0 ∧ c = 14 ∧ (j = 2 ∨ (78 ≤ j ∧ j ≤ 82))) υ π := ((f2.wk (fun c i j z => by omega)).tr (f3.wk (fun c i j z => by unfold juP at z; omega))).tr (q1.wk (fun c i j z => by unfold juP at z; omega))
  have k11 : ∀ j, π 11 1 j = υ 11 1 j := fun j => K1 11 1 j (fun z => by omega)
  have p2 : π 14 0 2 = 0 := by rw [q1 14 0 2 (fun z => by unfold juP at z; omega), f3 14 0 2 (fun z => by unfold juP at z; omega)]; exact k2
  have p81 : π 8 0 1 = 0 := by
    rw [K1 8 0 1 (fun z => by omega), u1 8 0 1 (fun z => by omega), g1 8 0 1 (fun z => by unfold kC at z; omega)]; exact c81
  refine ⟨rfl, V, hI.jdd ((G1.wk (fun c i j z => by
    rcases z with z | z | z
    · exact Or.inl (Or.inl z)
    · exact Or.inr (Or.inl z)
    · exact Or.inr (Or.inr (Or.inl z)))).tr (K1.wk (fun c i j z => Or.inr (Or.inr (Or.inr z))))) ⟨by rw [p2, p81], by omega, fun x hx => ?_⟩ ((t6.fr u1 (by omega)).fr K1 (by omega)) ((t7.fr u1 (by omega)).fr K1 (by omega)) (IM.fr K1 (by omega)) (Or.inr ⟨by rw [k11]; exact u2, q2, ?_, ?_, ?_, ?_⟩)⟩
  · rw [K1 46 0 x (fun z => by omega), K1 66 0 x (fun z => by omega), G1 46 0 x (fun z => by unfold kC at z; omega), G1 66 0 x (fun z => by unfold kC at z; omega)]
    exact e3 x hx
  · rw [k11, u4.2.1, q5]
  · rw [k11, u4.2.2.1, q6]
  · rw [k11, u4.1, q4]
  · rw [k11, u5, q7]
end Judge2
