/-! ===== the class' Rests: find ===== -/
section CR6
variable {i j : Nat} {σ : St} {Q : Res → St → Prop} {V : Vy} {s t : Int}
theorem TI.mu0 {mo ta : Nat → Int} {M : Int} {d o : Nat} (h : TI V mo ta M i σ d o) (hM : M ≤ 40) : 0 ≤ mu i σ d := by
  have hen := h.en
  obtain ⟨hA, -, -, -, -, -, -, -, -, -, -, -, r9⟩ := h
  have := sm_nn (f := fun e => 41 - σ 34 i (σ 35 i e).toNat) (n := d) (fun e he => by have := r9 _ (hA.2.2.1 e he); show 0 ≤ 41 - σ 34 i (σ 35 i e).toNat; omega)
  unfold mu
  omega
theorem c_find (hV : VOK V) (hA : VA σ j V) (hR : REP σ j V) (h : ∀ τ, FR (rsP i) σ τ → RS τ i V → RSz τ i V → Q (.inl none) τ) : WP mX4_find 0 [vR 5 i, vR 2 j, vU, vU, vU] [] σ Q := by
  have hL := hA.2.2.2.1
  have hN := hL.1
  have hcb := hV.cod
  have hcod : σ 10 j 11 = cod V := hA.2.1.2
  have hMb := hA.2.2.2.2.1
  have VA' : ∀ τ, FR (rsP i) σ τ → VA τ j V := fun τ f => hA.fr f (fun c k hc z => by unfold rsP at z; omega)
  have REP' : ∀ τ, FR (rsP i) σ τ → REP τ j V := fun τ f => hR.fr f (fun k z => by unfold rsP at z; omega)
  have c10 : ∀ τ, FR (rsP i) σ τ → ∀ c k, c = 10 ∨ (54 ≤ c ∧ c ≤ 61) → τ c j k = σ c j k := fun τ f c k hc => f c j k (fun z => by unfold rsP at z; omega)
  -- all are closed
  have fin : ∀ τ o, FR (rsP i) σ τ → TI V (σ 58 j) (σ 59 j) (σ 10 j 13) i τ 0 o → (∀ a : Nat, (a : Int) < σ 10 j 12 → τ 32 i (σ 61 j a).toNat ≠ 0) → WP mX4_numberByLeast 0 [vR 5 i, vR 10 j, vU, vU, vU] [] τ (CT mX4_find 138 [vR 5 i, vU, vR 10 j, vU, vU] [] Q) := fun τ o f1 hI hv => by
    obtain ⟨gA, gB, gC, gK, g1, g2, g3, g4, g5, g6, g7, g8, g9⟩ := id hI
    have hcl : ∀ x, isSt V x → tY τ i x ≠ -5 := fun x hx z => by
      obtain ⟨a, a1, a2⟩ := hL.2.2.2.1 x hx
      have := gA.2.2.2.2 x ⟨hx, by unfold tO; rw [← a2]; exact hv a a1, z⟩
      omega
    have hnu : τ 5 i 0 ≤ cod V := by
      have e := cnt_ext (P := fun k => isSt V (k : Int) ∧ τ 32 i k ≠ 0) (n := (cod V).toNat) (m := 1024) (by omega) (fun k hk _ z => by have := z.1.1.2; omega)
      have := cnt_bd (fun k => isSt V (k : Int) ∧ τ 32 i k ≠ 0) (cod V).toNat
      have := cod_pos hV
      omega
    refine c_number hV (VA' τ f1) gK hcl hnu (fun υ u1 u2 u3 u4 => ?_)
    have F2 : FR (rsP i) σ υ := f1.tr (u1.wk (fun c a b z => ⟨z.1, by have := z.2; omega⟩))
    have e5 : υ 5 i 0 = τ 5 i 0 := u1 5 i 0 (fun z => by unfold nbP at z; omega)
    show WP mX4_find 138 [vR 5 i, vU, vR 10 j, vU, vU] [] υ Q
    refine b_X4_find_138 (c_gather hV (VA' υ F2) e5 (by omega) u2 u3 u4 (fun ω w1 w2 w3 => ?_))
    show WP mX4_find 143 [vU, vU, vU, vU, vU] [] ω Q
    exact b_X4_find_143 (h ω (F2.tr (w1.wk (fun c a b z => ⟨z.1, by have := z.2; omega⟩))) w2 w3)
  have outer : ∀ n k : Nat, ((n + k : Nat) : Int) = σ 10 j 12 → ∀ τ o, FR (rsP i) σ τ → TI V (σ 58 j) (σ 59 j) (σ 10 j 13) i τ 0 o → (∀ a : Nat, a < k → τ 32 i (σ 61 j a).toNat ≠ 0) → WP mX4_find 64 [vR 5 i, vR 2 j, vR 10 j, vI (k : Int), vU] [] τ Q := by
    intro n
    induction n with
    | zero =>
      intro k hk τ o f1 hI hv
      have e12 : τ 10 j 12 = σ 10 j 12 := c10 τ f1 10 12 (by omega)
      exact b_X4_find_64 ⟨fun _ => fin τ o f1 hI (fun a ha => hv a (by omega)), fun z => by omega⟩
    | succ n ih =>
      intro k hk τ o f1 hI hv
      have e12 : τ 10 j 12 = σ 10 j 12 := c10 τ f1 10 12 (by omega)
      have e61 : τ 61 j k = σ 61 j k := c10 τ f1 61 k (by omega)
      have hkN : (k : Int) < σ 10 j 12 := by omega
      have hst := hL.2.1 k hkN
      have hb := st_bd hV hst
      have inner : ∀ (m : Nat) (c : Int) (υ : St) (d o : Nat), mu i υ d < m → 0 ≤ c → mu i υ d + c ≤ 50000 → FR (rsP i) σ υ → TI V (σ 58 j) (σ 59 j) (σ 10 j 13) i υ d o → (∀ a : Nat, a < k + 1 → υ 32 i (σ 61 j a).toNat ≠ 0) → WP mX4_find 102 [vR 5 i, vR 2 j, vR 10 j, vI (k : Int), vI c] [] υ Q := by
        intro m
        induction m with
        | zero =>
          intro c υ d o hm hc0 hc g1 hJ hw
          have := hJ.mu0 (by omega)
          omega
        | succ m ihm =>
          intro c υ d o hm hc0 hc g1 hJ hw
          have hm0 := hJ.mu0 (by omega)
          have r4 := hJ.2.2.2.2.2.2.2.1
          refine b_X4_find_102 ⟨fun z => by omega, fun _ => ⟨fun z => ⟨by unfold in32; omega, ?_⟩, fun z => ?_⟩⟩
          · have hd0 : d = 0 := by omega
            subst hd0
            exact ih (k + 1) (by omega) υ o g1 hJ hw
          · refine c_advance hV (VA' υ g1) (REP' υ g1) (fun a => c10 υ g1 58 a (by omega)) (fun a => c10 υ g1 59 a (by omega)) (c10 υ g1 10 13 (by omega)) hJ (by omega) (fun ω d' o' w1 w2 w3 w4 => ?_)
            show WP mX4_find 121 [vR 5 i, vR 2 j, vR 10 j, vI (k : Int), vI c] [] ω Q
            refine b_X4_find_121 ⟨by unfold in32; omega, ihm (c + 1) ω d' o' (by omega) (by omega) (by omega) (g1.tr w1) w2 (fun a ha => w4 _ (hL.2.1 a (by omega)) (hw a ha))⟩
      refine b_X4_find_64 ?_
      simp only [Int.toNat_natCast]
      rw [e61, e12]
      refine ⟨fun z => by omega, fun _ => ⟨⟨by omega, by omega⟩, ⟨by omega, by omega⟩, fun h0 => ⟨⟨by omega, by omega⟩, ?_⟩, fun hne => ⟨by unfold in32; omega, ih (k + 1) (by omega) τ o f1 hI (fun a ha => ?_)⟩⟩⟩
      · have hen := hI.en
        have hlt := hI.en_lt hV hst h0
        have r4 := hI.2.2.2.2.2.2.2.1
        have r5 := hI.2.2.2.2.2.2.2.2.1
        have r6 := hI.2.2.2.2.2.2.2.2.2.1
        have g9 := hI.2.2.2.2.2.2.2.2.2.2.2.2
        refine c_enter hst hV (by omega) (by omega) (by omega) (fun υ uF u32 u33 u34 u35 u36 u2 u5 => ?_)
        have hJ := TI_enter (υ := υ) hV hI (by omega) hst h0 (Or.inl rfl) u32 u33 (by rw [u34, if_pos rfl]) (fun x hx => by
          rw [u34]
          split
          · omega
          · exact g9 x hx) (fun x u hx hn => by
          unfold xE
          rw [u34, if_neg (ne_nat hx hst hn)]
          exact ⟨Or.inl, fun z => z.resolve_right (fun q => by omega)⟩) u35 u36 u2 u5
        show WP mX4_find 99 [vR 5 i, vR 2 j, vR 10 j, vI (k : Int), vU] [] υ Q
        have hmu : mu i υ 1 ≤ 50000 := by
          rw [mu_top (by omega), u5.2.2.2, show (1 : Nat) - 1 = 0 from rfl, sm]
          have := (hJ.2.2.2.2.2.2.2.2.2.2.2.2) _ (hJ.top (by omega)).1
          simp only [Nat.add_sub_cancel] at this
          omega
        refine b_X4_find_99 (inner 60000 0 υ 1 (o + 1) (by omega) (by omega) (by omega) (f1.tr uF) hJ (fun a ha => ?_))
        rw [u32]
        split
        · omega
        · rename_i hc
          by_cases c : a = k
          · rw [c] at hc; exact absurd rfl hc
          · exact hv a (by omega)
      · by_cases c : a = k
        · rw [c]; exact hne
        · exact hv a (by omega)
  refine b_X4_find_0 (c_fillTo (by omega) rfl rfl (by omega) rfl ?_)
  show WP mX4_find 37 [vR 5 i, vR 2 j, vR 10 j, vU, vU] [] _ Q
  refine b_X4_find_37 (c_fillTo (by omega) rfl rfl (by omega) rfl ?_)
  show WP mX4_find 49 [vR 5 i, vR 2 j, vR 10 j, vU, vU] [] _ Q
  refine b_X4_find_49 (c_fillTo (by omega) rfl rfl (by omega) rfl ?_)
  show WP mX4_find 62 [vR 5 i, vR 2 j, vR 10 j, vU, vU] [] _ Q
  refine b_X4_find_62 ?_
  have E0 : ∀ x, (up (up (up (up σ 5 i 0 0) 5 i 11 0) 5 i 12 0) 5 i 13 0) 10 j x = σ 10 j x := fun x => by simp [up]
  rw [hcod]
  have F0 : FR (rsP i) σ (up (up (up (up σ 5 i 0 0) 5 i 11 0) 5 i 12 0) 5 i 13 0) := (((FR.rf.u ⟨rfl, by omega⟩).u ⟨rfl, by omega⟩).u ⟨rfl, by omega⟩).u ⟨rfl, by omega⟩
  have z0 : (up (up (up (up σ 5 i 0 0) 5 i 11 0) 5 i 12 0) 5 i 13 0) 5 i 0 = 0 := by simp [up]
  have z11 : (up (up (up (up σ 5 i 0 0) 5 i 11 0) 5 i 12 0) 5 i 13 0) 5 i 11 = 0 := by simp [up]
  have z12 : (up (up (up (up σ 5 i 0 0) 5 i 11 0) 5 i 12 0) 5 i 13 0) 5 i 12 = 0 := by simp [up]
  have z13 : (up (up (up (up σ 5 i 0 0) 5 i 11 0) 5 i 12 0) 5 i 13 0) 5 i 13 = 0 := by simp [up]
  generalize (up (up (up (up σ 5 i 0 0) 5 i 11 0) 5 i 12 0) 5 i 13 0) = τ0 at *
  have q1 : (upR τ0 32 i 0 (min (cod V).toNat (al 32)) (fun _ => 0)) 10 j 11 = cod V := by
    unfold upR
    rw [if_neg (fun z => by omega), E0, hcod]
  rw [q1]
  have q2 : (upR (upR τ0 32 i 0 (min (cod V).toNat (al 32)) (fun _ => 0)) 27 i 0 (min (cod V).toNat (al 27)) (fun _ => -1)) 10 j 11 = cod V := by
    unfold upR
    rw [if_neg (fun z => by omega), if_neg (fun z => by omega), E0, hcod]
  rw [q2]
  have F1 : FR (rsP i) σ (upR (upR (upR τ0 32 i 0 (min (cod V).toNat (al 32)) (fun _ => 0)) 27 i 0 (min (cod V).toNat (al 27)) (fun _ => -1)) 28 i 0 (min (cod V).toNat (al 28)) (fun _ => -5)) := ((F0.uR (fun k _ _ => ⟨rfl, by omega⟩)).uR (fun k _ _ => ⟨rfl, by omega⟩)).uR (fun k _ _ => ⟨rfl, by omega⟩)
  have a32 : ∀ x, isSt V x → (upR (upR (upR τ0 32 i 0 (min (cod V).toNat (al 32)) (fun _ => 0)) 27 i 0 (min (cod V).toNat (al 27)) (fun _ => -1)) 28 i 0 (min (cod V).toNat (al 28)) (fun _ => -5)) 32 i x.toNat = 0 := fun x hx => by
    have := hx.1
    unfold inC at this
    unfold upR
    rw [if_neg (fun z => by omega), if_neg (fun z => by omega), if_pos ⟨rfl, rfl, by omega, by show x.toNat < 0 + min (cod V).toNat 1024; omega⟩]
  have a27 : ∀ x, isSt V x → (upR (upR (upR τ0 32 i 0 (min (cod V).toNat (al 32)) (fun _ => 0)) 27 i 0 (min (cod V).toNat (al 27)) (fun _ => -1)) 28 i 0 (min (cod V).toNat (al 28)) (fun _ => -5)) 27 i x.toNat = -1 := fun x hx => by
    have := hx.1
    unfold inC at this
    unfold upR
    rw [if_neg (fun z => by omega), if_pos ⟨rfl, rfl, by omega, by show x.toNat < 0 + min (cod V).toNat 1024; omega⟩]
  have a28 : ∀ x, isSt V x → (upR (upR (upR τ0 32 i 0 (min (cod V).toNat (al 32)) (fun _ => 0)) 27 i 0 (min (cod V).toNat (al 27)) (fun _ => -1)) 28 i 0 (min (cod V).toNat (al 28)) (fun _ => -5)) 28 i x.toNat = -5 := fun x hx => by
    have := hx.1
    unfold inC at this
    unfold upR
    rw [if_pos ⟨rfl, rfl, by omega, by show x.toNat < 0 + min (cod V).toNat 1024; omega⟩]
  have a5 : ∀ k, (upR (upR (upR τ0 32 i 0 (min (cod V).toNat (al 32)) (fun _ => 0)) 27 i 0 (min (cod V).toNat (al 27)) (fun _ => -1)) 28 i 0 (min (cod V).toNat (al 28)) (fun _ => -5)) 5 i k = τ0 5 i k := fun k => by
    unfold upR
    rw [if_neg (fun z => by omega), if_neg (fun z => by omega), if_neg (fun z => by omega)]
  generalize (upR (upR (upR τ0 32 i 0 (min (cod V).toNat (al 32)) (fun _ => 0)) 27 i 0 (min (cod V).toNat (al 27)) (fun _ => -1)) 28 i 0 (min (cod V).toNat (al 28)) (fun _ => -5)) = τ at *
  have noOp : ∀ x, ¬ Op V (tO τ i) (tY τ i) x := fun x hx => hx.2.1 (a32 x hx.1)
  refine outer (σ 10 j 12).toNat 0 (by omega) τ 0 F1 ?_ (fun a ha => by omega)
  unfold TI ARR
  rw [a5, a5, a5, a5, z0, z11, z12, z13]
  refine ⟨⟨fun x hx => ⟨by show 0 ≤ τ 32 i x.toNat; rw [a32 x hx]; omega, by show τ 32 i x.toNat ≤ 0; rw [a32 x hx]; omega, fun _ => ⟨a28 x hx, a27 x hx⟩⟩, fun x y hx _ hn => absurd (a32 x hx) hn, fun e he => by omega, fun e f _ hf => by omega, fun x hx => absurd hx (noOp x)⟩, ⟨fun e he => by omega, fun x hx => absurd hx (noOp x), fun x hx => absurd hx (noOp x), fun e he => by omega, fun e he => by omega, fun x t hx => absurd hx (noOp x), fun e he => by omega, fun e he => by omega⟩, fun x hx => absurd hx (noOp x), ⟨fun x hx hc => absurd (a28 x hx) hc, fun x y hx _ hc => absurd (a28 x hx) hc, fun r r0 r1 => by omega, Int.le_refl _⟩, fun a ha => by omega, fun a b _ hb => by omega, fun x hx => absurd hx (noOp x), rfl, rfl, by omega, by omega, ?_, fun x hx => absurd hx (noOp x)⟩
  rw [cnt_0 (P := fun k => isSt V (k : Int) ∧ τ 32 i k ≠ 0) (n := 1024) (fun k _ z => z.2 (by have := a32 _ z.1; rw [Int.toNat_natCast] at this; exact this))]
  rfl
end CR6
