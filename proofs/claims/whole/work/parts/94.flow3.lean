/-! ===== flow: the model; both ===== -/
section Flow3
variable {σ τ : St} {Q : Res → St → Prop} {V : Vy} {F q : Int}
theorem d_flow {s : Int} {n : Nat} (hV : VOK V) (hT : MT σ V) (hR : MRP σ V) (hs : isSt V s) (hq : 2 ≤ q) (hn : n ≤ 400) (h : ∀ τ fr, frN V fr → FR (fun c i k => (c = 101 ∨ c = 102 ∨ (c = 14 ∧ k = 71)) ∧ i = 0) σ τ → τ 14 0 71 ≠ 0 → (∀ t : Nat, isSt V (t : Int) → τ 101 0 t = if bcnt fr = 0 then (if (t : Int) = s then 1000000000 else 0) else itF V (bcnt fr) q (fun t => if (t : Int) = s then 1000000000 else 0) n t) → Q (.inl (some (vI 1))) τ) : WP mX13_flow 41 [vR 14 0, vI s, vI (n : Int), vI q, vU, vU, vU] [] σ Q := by
  have hpe := hV.pe
  have hcod := hV.cod
  have hc0 := cod_pos hV
  have hsb := st_bd hV hs
  refine b_X13_flow_41 ?_
  -- the rounds
  have rounds : ∀ fr, frN V fr → ∀ r i : Nat, r + i = n → ∀ τ : St, FR (fun c i k => (c = 101 ∨ c = 102) ∧ i = 0) σ τ → (∀ t : Nat, isSt V (t : Int) → τ 101 0 t = itF V (bcnt fr) q (fun t => if (t : Int) = s then 1000000000 else 0) i t) → (∀ t : Nat, (t : Int) < cod V → ¬ isSt V (t : Int) → τ 101 0 t = 0) → (bcnt fr = 0 → i = 0) → WP mX13_flow 84 [vR 14 0, vU, vI (n : Int), vI q, vI fr, vI (i : Int), vU] [] τ Q := by
    intro fr hfr r
    have hF := bcnt_bd fr
    have bc0 : fr = 0 ↔ bcnt fr = 0 := ⟨fun z => by rw [z]; rfl, fun z => (sub_eq (m := 0) ⟨by omega, fun p hp => absurd hp (tbit_0 p)⟩ hfr.1 (by rw [z]; rfl)).symm⟩
    have fin : ∀ (τ : St) (i : Nat), FR (fun c i k => (c = 101 ∨ c = 102) ∧ i = 0) σ τ → (∀ t : Nat, isSt V (t : Int) → τ 101 0 t = itF V (bcnt fr) q (fun t => if (t : Int) = s then 1000000000 else 0) i t) → (bcnt fr = 0 → i = 0) → (i = n ∨ bcnt fr = 0) → Q (.inl (some (vI 1))) (up τ 14 0 71 1) := fun τ i f1 i1 i2 i3 => by
      refine h _ fr hfr ((f1.wk (fun c i j z => by omega)).u (by omega)) (by rw [up_s]; omega) (fun t ht => ?_)
      rw [up_c (by omega), i1 t ht]
      by_cases e : bcnt fr = 0
      · rw [if_pos e, i2 e]; rfl
      · rw [if_neg e, i3.resolve_right e]
    induction r with
    | zero =>
      intro i hi τ f1 i1 i0 i2
      exact b_X13_flow_84 ⟨fun _ => fin τ i f1 i1 i2 (Or.inl (by omega)), fun z => by omega⟩
    | succ r ih =>
      intro i hi τ f1 i1 i0 i2
      refine b_X13_flow_84 ⟨fun z => by omega, fun _ => ⟨fun z => fin τ i f1 i1 i2 (Or.inr (bc0.mp z)), fun z => ?_⟩⟩
      have hF1 : 1 ≤ bcnt fr := by
        have : bcnt fr ≠ 0 := fun w => z (bc0.mpr w)
        omega
      have e10 : ∀ υ, FR (fun c i k => (c = 101 ∨ c = 102) ∧ i = 0) σ υ → υ 14 0 10 = pe V ∧ υ 77 0 (pe V).toNat = cod V := fun υ f => ⟨by rw [f 14 0 10 (fun z => by omega)]; exact hT.1, by rw [f 77 0 _ (fun z => by omega)]; exact hT.2.2.2.2.2.2.2.1 (pe V).toNat (by omega)⟩
      -- parts = coming
      have take : ∀ υ1 : St, FR (fun c i k => (c = 101 ∨ c = 102) ∧ i = 0) σ υ1 → (∀ t, isSt V t → υ1 102 0 t.toNat = phi V (bcnt fr) q (τ 101 0) t) → (∀ t : Nat, (t : Int) < cod V → ¬ isSt V (t : Int) → υ1 102 0 t = 0) → ∀ r2 k : Nat, ((r2 + k : Nat) : Int) = cod V → ∀ υ, FR (fun c i _ => c = 101 ∧ i = 0) υ1 υ → (∀ y : Nat, y < k → υ 101 0 y = υ1 102 0 y) → WP mX13_flow 179 [vR 14 0, vU, vI (n : Int), vI q, vI fr, vI (i : Int), vI (k : Int)] [] υ Q := by
        intro υ1 g1 hphi hz r2
        induction r2 with
        | zero =>
          intro k hk υ f2 h101
          have G : FR (fun c i k => (c = 101 ∨ c = 102) ∧ i = 0) σ υ := g1.tr (f2.wk (fun c i j z => by omega))
          refine b_X13_flow_179 ?_
          rw [(e10 υ G).1, (e10 υ G).2]
          refine ⟨by omega, fun _ => ⟨by unfold in32; omega, ih (i + 1) (by omega) υ G (fun t ht => ?_) (fun t ht hnt => ?_) (fun w => by omega)⟩, fun z => by omega⟩
          · have htb := ht.1
            unfold inC at htb
            have h2 := hphi (t : Int) ht
            rw [Int.toNat_natCast] at h2
            rw [h101 t (by omega), h2]
            exact phi_cg i1
          · rw [h101 t (by omega)]; exact hz t ht hnt
        | succ r2 ih2 =>
          intro k hk υ f2 h101
          have G : FR (fun c i k => (c = 101 ∨ c = 102) ∧ i = 0) σ υ := g1.tr (f2.wk (fun c i j z => by omega))
          refine b_X13_flow_179 ?_
          rw [(e10 υ G).1, (e10 υ G).2, Int.toNat_natCast]
          refine ⟨by omega, fun z => by omega, fun _ => ⟨by omega, by omega, by unfold in32; omega, ih2 (k + 1) (by omega) _ (f2.u ⟨rfl, rfl⟩) (fun y hy => ?_)⟩⟩
          by_cases e : y = k
          · rw [e, up_s, f2 102 0 k (fun z => by omega)]
          · rw [up_j e]; exact h101 y (by omega)
      -- coming
      have pour : ∀ r2 k : Nat, ((r2 + k : Nat) : Int) = cod V → ∀ υ, FR (fun c i _ => c = 102 ∧ i = 0) τ υ → (∀ t, isSt V t → υ 102 0 t.toNat = w32 (sm (ctF V (bcnt fr) q (τ 101 0) t) k)) → (∀ t : Nat, (t : Int) < cod V → ¬ isSt V (t : Int) → υ 102 0 t = 0) → WP mX13_flow 124 [vR 14 0, vU, vI (n : Int), vI q, vI fr, vI (i : Int), vI (k : Int)] [] υ Q := by
        intro r2
        induction r2 with
        | zero =>
          intro k hk υ f2 i1' i0'
          have G : FR (fun c i k => (c = 101 ∨ c = 102) ∧ i = 0) σ υ := f1.tr (f2.wk (fun c i j z => by omega))
          refine b_X13_flow_124 ?_
          rw [(e10 υ G).1, (e10 υ G).2]
          refine ⟨by omega, fun _ => take υ G (fun t ht => ?_) i0' (cod V).toNat 0 (by omega) υ FR.rf (fun y hy => by omega), fun z => by omega⟩
          rw [i1' t ht]
          unfold phi
          rw [sm_split (f := ctF V (bcnt fr) q (τ 101 0) t) (n := k) 1024 (by omega) (fun x hx1 hx2 => ct_f (fun hP => by have := hP.1.1; unfold inC at this; omega))]
        | succ r2 ih2 =>
          intro k hk υ f2 i1' i0'
          have G : FR (fun c i k => (c = 101 ∨ c = 102) ∧ i = 0) σ υ := f1.tr (f2.wk (fun c i j z => by omega))
          have e101 : ∀ x, υ 101 0 x = τ 101 0 x := fun x => f2 101 0 x (fun z => by omega)
          have nx : ∀ υ', FR (fun c i _ => c = 102 ∧ i = 0) τ υ' → (∀ t, isSt V t → υ' 102 0 t.toNat = w32 (sm (ctF V (bcnt fr) q (τ 101 0) t) k + ctF V (bcnt fr) q (τ 101 0) t k)) → (∀ t : Nat, (t : Int) < cod V → ¬ isSt V (t : Int) → υ' 102 0 t = 0) → WP mX13_flow 170 [vR 14 0, vU, vI (n : Int), vI q, vI fr, vI (i : Int), vI (k : Int)] [] υ' Q := fun υ' f' h1 h0 => b_X13_flow_170 ⟨by unfold in32; omega, ih2 (k + 1) (by omega) υ' f' (fun t ht => by rw [h1 t ht]; rfl) h0⟩
          refine b_X13_flow_124 ?_
          rw [(e10 υ G).1, (e10 υ G).2, Int.toNat_natCast, e101]
          refine ⟨by omega, fun z => by omega, fun _ => ⟨by omega, fun hle => nx υ f2 (fun t ht => ?_) i0', fun hgt => ⟨by omega, by omega, d_bits hfr.1.1 hfr.1.2 ?_⟩⟩⟩
          · rw [ct_f (fun z => by omega), Int.add_zero]; exact i1' t ht
          · show WP mX13_flow 165 [vR 14 0, vU, vI (n : Int), vI q, vI fr, vI (i : Int), vI (k : Int)] [vI (bcnt fr), vI (τ 101 0 k), vI (τ 101 0 k), vI (k : Int), vR 14 0] υ Q
            have hks : isSt V (k : Int) := by
              apply Classical.byContradiction
              intro hn'
              have := i0 k (by omega) hn'
              omega
            refine b_X13_flow_165 ⟨⟨by omega, by omega⟩, WP.ro (fun hro => ?_)⟩
            have hb : in32 (υ 101 0 k) := (hro 101 0 k).2 rfl
            rw [e101] at hb
            refine d_flowFrom (F := bcnt fr) hV (hT.fr G (fun c j hc z => by omega)) (hR.fr G (fun c j hc z => by omega)) hks ⟨hgt, hb.2⟩ hF1 hq hro (fun ω o1 o2 o3 => ?_)
            refine nx ω (f2.tr o1) (fun t ht => ?_) (fun t ht hnt => by rw [o3 t hnt]; exact i0' t ht hnt)
            rw [o2 t ht, i1' t ht, w32_add, ct_t ⟨hks, hgt⟩]
      -- nothing yet
      have zero : ∀ r2 k : Nat, ((r2 + k : Nat) : Int) = cod V → ∀ υ, FR (fun c i _ => c = 102 ∧ i = 0) τ υ → (∀ y : Nat, y < k → υ 102 0 y = 0) → WP mX13_flow 98 [vR 14 0, vU, vI (n : Int), vI q, vI fr, vI (i : Int), vI (k : Int)] [] υ Q := by
        intro r2
        induction r2 with
        | zero =>
          intro k hk υ f2 h0
          have G : FR (fun c i k => (c = 101 ∨ c = 102) ∧ i = 0) σ υ := f1.tr (f2.wk (fun c i j z => by omega))
          refine b_X13_flow_98 ?_
          rw [(e10 υ G).1, (e10 υ G).2]
          refine ⟨by omega, fun _ => pour (cod V).toNat 0 (by omega) υ f2 (fun t ht => ?_) (fun t ht _ => h0 t (by omega)), fun z => by omega⟩
          have htb := ht.1
          unfold inC at htb
          rw [h0 t.toNat (by omega)]; rfl
        | succ r2 ih2 =>
          intro k hk υ f2 h0
          have G : FR (fun c i k => (c = 101 ∨ c = 102) ∧ i = 0) σ υ := f1.tr (f2.wk (fun c i j z => by omega))
          refine b_X13_flow_98 ?_
          rw [(e10 υ G).1, (e10 υ G).2, Int.toNat_natCast]
          refine ⟨by omega, fun z => by omega, fun _ => ⟨by omega, by unfold in32; omega, ih2 (k + 1) (by omega) _ (f2.u ⟨rfl, rfl⟩) (fun y hy => ?_)⟩⟩
          by_cases e : y = k
          · rw [e, up_s]
          · rw [up_j e]; exact h0 y (by omega)
      exact zero (cod V).toNat 0 (by omega) τ FR.rf (fun y hy => by omega)
  have init : ∀ r k : Nat, r + k = 1024 → ∀ τ : St, FR (fun c i _ => c = 101 ∧ i = 0) σ τ → (∀ y, y < k → τ 101 0 y = 0) → WP mX13_flow 44 [vR 14 0, vI s, vI (n : Int), vI q, vI (k : Int), vU, vU] [] τ Q := by
    intro r
    induction r with
    | zero =>
      intro k hk τ f1 h0
      have f2 : FR (fun c i _ => c = 101 ∧ i = 0) σ (up τ 101 0 s.toNat 1000000000) := f1.u ⟨rfl, rfl⟩
      refine b_X13_flow_44 ⟨fun _ => ⟨hsb, d_freeSet hV (hT.fr f2 (fun c j hc z => by omega)) (fun fr hfr => ?_)⟩, fun z => by omega⟩
      show WP mX13_flow 79 [vR 14 0, vU, vI (n : Int), vI q, vU, vU, vU] [vI fr] _ Q
      refine b_X13_flow_79 (rounds fr hfr n 0 (by omega) _ (f2.wk (fun c i j z => by omega)) (fun t ht => ?_) (fun t ht hnt => ?_) (fun _ => rfl))
      · have htb := st_bd hV ht
        show _ = (if (t : Int) = s then 1000000000 else 0)
        by_cases e : (t : Int) = s
        · rw [if_pos e, show s.toNat = t by omega, up_s]
        · rw [if_neg e, up_j (by omega)]; exact h0 t (by omega)
      · rw [up_j (fun z => hnt (by rw [z, show ((s.toNat : Nat) : Int) = s by omega]; exact hs))]; exact h0 t (by omega)
    | succ r ih =>
      intro k hk τ f1 h0
      refine b_X13_flow_44 ⟨fun z => by omega, fun _ => ⟨by omega, by unfold in32; omega, ?_⟩⟩
      rw [Int.toNat_natCast]
      refine ih (k + 1) (by omega) _ (f1.u ⟨rfl, rfl⟩) (fun y hy => ?_)
      by_cases e : y = k
      · rw [e, up_s]
      · rw [up_j e]; exact h0 y (by omega)
  exact init 1024 0 (by omega) σ FR.rf (fun y hy => by omega)
theorem INV.flo (hI : INV V σ) (f : FR (fun c i j => (kC c i j ∨ kM c i j) ∨ (i = 0 ∧ (c = 20 ∨ c = 101 ∨ (c = 1 ∧ j = 0) ∨ (c = 14 ∧ j = 71)))) σ τ) (h1 : ILD V τ) (h2 : ICC V τ) (h3 : IMD V τ) (h4 : IFL V τ) : INV V τ := by
  obtain ⟨a1, a2, a3, a4, a5, a6, a7, a8, a9, a10, a11, a12⟩ := hI
  refine ⟨a1.fr f ?_, a2.fr f ?_, a3.fr f ?_, h1, h2, h3, a7.fr f ?_, a8.fr f ?_, h4, a10.fr f ?_, a11.fr f ?_, a12.fr f ?_⟩ <;> (unfold kC kM; omega)
theorem pr_flow {s n q : Int} (hI : INV V σ) : PRC mX11_flow mX13_flow [vR 12 0, vI s, vI n, vI q] [vR 14 0, vI s, vI n, vI q, vU, vU, vU] σ := by
  have hV := hI.1.1
  have hA := hI.1.2.1
  have hT := hI.1.2.2.1
  by_cases g : isSt V s ∧ (0 ≤ n ∧ n ≤ 400) ∧ (2 ≤ q ∧ q ≤ 1000)
  · obtain ⟨hs, hn, hq⟩ := g
    obtain ⟨m, rfl⟩ : ∃ m : Nat, n = m := ⟨n.toNat, by omega⟩
    refine b_X11_flow_0 (c_isState hV hA.1 hA.2.1 ?_)
    show WP mX11_flow 11 [vR 12 0, vI s, vI (m : Int), vI q] [vI (b2 (isSt V s))] σ _
    refine b_X11_flow_11 ⟨fun z => absurd hs (b2_eq z), fun _ => ⟨fun z => by omega, fun _ => ⟨fun z => by omega, fun _ => ⟨fun _ => ?_, fun z => absurd hq z⟩⟩⟩⟩
    refine c_readyI hV hA hI.2.2.2.1 hI.2.2.2.2.1 (fun τ f1 t1 t2 t3 t4 t5 t6 t7 => ?_)
    show WP mX11_flow 42 [vR 12 0, vI s, vI (m : Int), vI q] [] τ _
    have hFf := t1.2.2.1
    have hfr : frN V (τ 10 0 9) := ⟨hFf.1, hFf.2.1⟩
    have hb := bcnt_bd (τ 10 0 9)
    refine b_X11_flow_42 (c_pour (F := bcnt (τ 10 0 9)) hV t1 t2 hs hFf.2.2 hb.1 hq.1 (by omega) (fun υ u1 u2 u3 => ?_))
    show WP mX11_flow 56 [vU, vU, vU, vU] [] υ _
    refine b_X11_flow_56 ⟨1, rfl, ?_⟩
    have G1 : FR (fun c i j => kC c i j ∨ (i = 0 ∧ (c = 20 ∨ (c = 1 ∧ j = 0)))) σ υ := (f1.wk (fun c i j z => Or.inl z)).tr (u1.wk (fun c i j z => by unfold kC; omega))
    have IV : IVV V υ := hI.1.fr G1 (by unfold kC; omega)
    have IM : IMD V υ := hI.2.2.2.2.2.1.fr G1 (by unfold kC; omega)
    refine b_X13_flow_0 (d_isState hV IV.2.2.1 ?_)
    show WP mX13_flow 5 [vR 14 0, vI s, vI (m : Int), vI q, vU, vU, vU] [vI (b2 (isSt V s))] υ _
    refine b_X13_flow_5 ⟨fun z => absurd hs (b2_eq z), fun _ => ⟨fun z => absurd ⟨by omega, by omega⟩ z, fun _ => ⟨fun _ => d_makeI IV IM (fun μ m1 m2 m3 m4 m5 => ?_), fun z => absurd hq z⟩⟩⟩
    refine d_flow (n := m) hV m2.2.2.1 m3 hs hq.1 (by omega) (fun π fr hfr2 q1 q2 q3 => ⟨rfl, V, ?_⟩)
    have efr := hfr.un hfr2
    have K1 : FR (fun c i j => kM c i j ∨ (i = 0 ∧ (c = 101 ∨ (c = 14 ∧ j = 71)))) υ π := (m1.wk (fun c i j z => Or.inl z)).tr (q1.wk (fun c i j z => by unfold kM; omega))
    refine hI.flo ((G1.wk (fun c i j z => z.elim (fun a => Or.inl (Or.inl a)) (fun b => Or.inr (by omega)))).tr (K1.wk (fun c i j z => z.elim (fun a => Or.inl (Or.inr a)) (fun b => Or.inr (by omega))))) ((t6.fr u1 (by omega)).fr K1 (by unfold kM; omega)) ((t7.fr u1 (by omega)).fr K1 (by unfold kM; omega)) (m5.fr q1 (by omega)) (Or.inr ⟨?_, q2, fun t ht => ?_⟩)
    · rw [K1 1 0 0 (fun z => by unfold kM at z; omega)]; exact u2
    · rw [K1 20 0 t (fun z => by unfold kM at z; omega), u3 t ht, q3 t ht, efr]
  · have c1 : ∀ Q : Res → St → Prop, Q (.inl (some (vI (-2)))) σ → WP mX11_flow 0 [vR 12 0, vI s, vI n, vI q] [] σ Q := fun Q h => by
      refine b_X11_flow_0 (c_isState hV hA.1 hA.2.1 ?_)
      exact b_X11_flow_11 ⟨fun _ => h, fun z => ⟨fun _ => h, fun z1 => ⟨fun _ => h, fun z2 => ⟨fun z3 => absurd ⟨b2_ne z, ⟨z1, z2⟩, z3⟩ g, fun _ => h⟩⟩⟩⟩
    refine PRC.same (-2) hI c1 (fun Q h => ?_)
    refine b_X13_flow_0 (d_isState hV hT ?_)
    exact b_X13_flow_5 ⟨fun _ => h, fun z => ⟨fun _ => h, fun z1 => ⟨fun z3 => absurd ⟨b2_ne z, z1, z3⟩ g, fun _ => h⟩⟩⟩
end Flow3
