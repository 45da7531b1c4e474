/-! ===== the model's reader: a clause, plain ===== -/
theorem isW_tab : ∀ i, i < 8 → ∀ j, j < 8 → strLen.getD i 0 = strLen.getD j 0 → chr i 0 = chr j 0 → i = j := by decide +kernel
theorem isW_pos : ∀ i, i < 8 → 0 < strLen.getD i 0 := by decide +kernel
theorem isW_ex {I : TXT} {s i j : Nat} (hi : i < 8) (hj : j < 8) (h1 : isW I i s) (h2 : isW I j s) : i = j :=
  isW_tab i hi j hj (by have := h1.2.1; have := h2.2.1; omega) ((h1.2.2 0 (isW_pos i hi)).symm.trans (h2.2.2 0 (isW_pos j hj)))
section Mrd3
variable {σ τ : St} {Q : Res → St → Prop} {I : TXT} {s : Nat} {D : PSt} {k : Int} {pl : Nat}
theorem m_tail {D' : PSt} {e : Nat} (eX : qC0 I D s = .inl (D', e)) (hL : LM σ I e D') (h1 : ∀ τ D' e, qC I D s = .inl (D', e) → FR rmP σ τ → LM τ I (nx I e) D' → Q (.inl none) τ) (h2 : ∀ τ k pl, qC I D s = .inr (k, pl) → FR rmP σ τ → TH τ k pl → Q (.inr (13, 0)) τ) : WP mX13_readClause 180 [vR 14 0, vU, vU, vU] [] σ Q := by
  have e6 : σ 14 0 6 = tK I e := hL.2.2.1.2.2.1
  have eq : qC I D s = fin_ I D' e := by unfold qC; rw [eX]; rfl
  refine b_X13_readClause_180 ?_
  rw [e6]
  refine ⟨fun z => ?_, fun z => d_needY (b_X13_readClause_198 (d_sc hL (fun τ f L2 => ?_)))⟩
  · have eq2 : qC I D s = .inr (1, e) := by rw [eq]; unfold fin_; rw [if_neg z]
    exact d_needN hL (by omega) (fun τ f ht => h2 τ 1 e eq2 f ht)
  · have eq2 : qC I D s = .inl (D', e) := by rw [eq]; unfold fin_; rw [if_pos z]
    show WP mX13_readClause 202 [vU, vU, vU, vU] [] τ Q
    exact b_X13_readClause_202 (h1 τ D' e eq2 f L2)
theorem qC_no {x : Int × Nat} (h : qC0 I D s = .inr x) : qC I D s = .inr x := by unfold qC; rw [h]; rfl
theorem m_clause (hL : LM σ I s D) (hD : DOK D) (hs : s < I.1) (h1 : ∀ τ D' e, qC I D s = .inl (D', e) → FR rmP σ τ → LM τ I (nx I e) D' → Q (.inl none) τ) (h2 : ∀ τ k pl, qC I D s = .inr (k, pl) → FR rmP σ τ → TH τ k pl → Q (.inr (13, 0)) τ) : WP mX13_readClause 0 [vR 14 0, vU, vU, vU] [] σ Q := by
  have hT := hL.1
  have hsl := hL.2.1
  have hK := hL.2.2.1
  have ok : ∀ {X : Rr}, qC0 I D s = X → ∀ τ D' e, X = .inl (D', e) → FR rmP σ τ → LM τ I e D' → WP mX13_readClause 180 [vR 14 0, vU, vU, vU] [] τ Q := fun {X} eX τ D' e hX f hl => m_tail (eX.trans hX) hl (fun υ D2 e2 q a b => h1 υ D2 e2 q (f.tr a) b) (fun υ k pl q a b => h2 υ k pl q (f.tr a) b)
  have no : ∀ {X : Rr}, qC0 I D s = X → ∀ τ k pl, X = .inr (k, pl) → FR rmP σ τ → TH τ k pl → Q (.inr (13, 0)) τ := fun {X} eX τ k pl hX f ht => h2 τ k pl (qC_no (eX.trans hX)) f ht
  refine b_X13_readClause_0 (d_is (by omega) hT hK hsl ?_)
  show WP mX13_readClause 6 [vR 14 0, vU, vU, vU] [vI _] σ Q
  refine b_X13_readClause_6 ⟨fun z0 => d_is (by omega) hT hK hsl ?_, fun z => ?_⟩
  · have n0 := b2_eq z0
    show WP mX13_readClause 22 [vR 14 0, vU, vU, vU] [vI _] σ Q
    refine b_X13_readClause_22 ⟨fun z1 => d_is (by omega) hT hK hsl ?_, fun z => ?_⟩
    · have n1 := b2_eq z1
      show WP mX13_readClause 38 [vR 14 0, vU, vU, vU] [vI _] σ Q
      refine b_X13_readClause_38 ⟨fun z4 => d_is (by omega) hT hK hsl ?_, fun z => ?_⟩
      · have n4 := b2_eq z4
        show WP mX13_readClause 54 [vR 14 0, vU, vU, vU] [vI _] σ Q
        refine b_X13_readClause_54 ⟨fun z5 => d_is (by omega) hT hK hsl ?_, fun z => ?_⟩
        · have n5 := b2_eq z5
          show WP mX13_readClause 92 [vR 14 0, vU, vU, vU] [vI _] σ Q
          refine b_X13_readClause_92 (d_is (by omega) hT hK hsl ?_)
          show WP mX13_readClause 99 [vR 14 0, vI _, vU, vU] [vI _] σ Q
          refine b_X13_readClause_99 (d_is (by omega) hT hK hsl ?_)
          show WP mX13_readClause 106 [vR 14 0, vI _, vI _, vU] [vI _] σ Q
          -- the mark of being late
          have L1 : LM (up σ 14 0 23 1) I s (D.1, fu D.2.1 5 1, D.2.2) := hL.w (by omega) (hL.2.2.2.1.sc (FR.rf.u ⟨rfl, rfl⟩) (by
            obtain ⟨⟨c0, c1, c2, c3, c4, c5, c6, c7, c8⟩, -⟩ := hL.2.2.2.1
            exact ⟨by simp [up]; exact c0, by simp [up]; exact c1, by simp [up]; exact c2, by simp [up]; exact c3, by simp [up, fu]; exact c4, by simp [up, fu]; exact c5, by simp [up, fu]; exact c6, by simp [up, fu]; exact c7, by simp [up, fu]⟩) rfl rfl)
          have F1 : FR rmP σ (up σ 14 0 23 1) := FR.rf.u (by unfold rmP; omega)
          by_cases w2 : isW I 2 s
          · have e0 : qC0 I D s = qWorth I D s := by unfold qC0; rw [pif_f n0, pif_f n1, pif_t w2]
            rw [b2_t w2]
            refine b_X13_readClause_106 ⟨fun _ => d_needY (b_X13_readClause_138 ⟨fun q => by omega, fun _ => m_worth L1 hD (fun τ D' e q f hl => ?_) (fun τ k pl q f ht => no e0 τ k pl q (F1.tr f) ht)⟩), fun q => by omega⟩
            show WP mX13_readClause 151 [vR 14 0, vU, vU, vU] [] τ Q
            exact b_X13_readClause_151 (ok e0 τ D' e q (F1.tr f) hl)
          rw [b2_f w2]
          by_cases w3 : isW I 3 s
          · have e0 : qC0 I D s = qMeets I D s := by unfold qC0; rw [pif_f n0, pif_f n1, pif_f w2, pif_t w3]
            rw [b2_t w3]
            refine b_X13_readClause_106 ⟨fun q => absurd rfl q, fun _ => ⟨fun _ => d_needY (b_X13_readClause_138 ⟨fun _ => ⟨fun q => by omega, fun _ => m_meets L1 hD hs (fun τ D' e q f hl => ?_) (fun τ k pl q f ht => no e0 τ k pl q (F1.tr f) ht)⟩, fun q => absurd rfl q⟩), fun q => by omega⟩⟩
            show WP mX13_readClause 162 [vR 14 0, vU, vU, vU] [] τ Q
            exact b_X13_readClause_162 (ok e0 τ D' e q (F1.tr f) hl)
          rw [b2_f w3]
          by_cases w6 : isW I 6 s
          · have e0 : qC0 I D s = qKeeps I D s := by unfold qC0; rw [pif_f n0, pif_f n1, pif_f w2, pif_f w3, pif_f n4, pif_f n5, pif_t w6]
            rw [b2_t w6]
            refine b_X13_readClause_106 ⟨fun q => absurd rfl q, fun _ => ⟨fun q => absurd rfl q, fun _ => ⟨fun _ => d_needY (b_X13_readClause_138 ⟨fun _ => ⟨fun _ => ⟨fun q => by omega, fun _ => m_keeps L1 hD (fun τ D' e q f hl => ?_) (fun τ k pl q f ht => no e0 τ k pl q (F1.tr f) ht)⟩, fun q => absurd rfl q⟩, fun q => absurd rfl q⟩), fun q => by omega⟩⟩⟩
            show WP mX13_readClause 173 [vR 14 0, vU, vU, vU] [] τ Q
            exact b_X13_readClause_173 (ok e0 τ D' e q (F1.tr f) hl)
          rw [b2_f w6]
          refine b_X13_readClause_106 ⟨fun q => absurd rfl q, fun _ => ⟨fun q => absurd rfl q, fun _ => ⟨fun q => absurd rfl q, fun _ => d_is (by omega) hT hK hsl ?_⟩⟩⟩
          show WP mX13_readClause 126 [vR 14 0, vI 0, vI 0, vI 0] [vI _, vR 14 0] σ Q
          refine b_X13_readClause_126 ⟨fun z7 => ?_, fun z7 => ?_⟩
          · have e0 : qC0 I D s = .inr (1, s) := by unfold qC0; rw [pif_f n0, pif_f n1, pif_f w2, pif_f w3, pif_f n4, pif_f n5, pif_f w6, pif_f (b2_eq z7)]
            exact d_needN hL (by omega) (fun τ f ht => no e0 τ 1 s rfl f ht)
          · have e0 : qC0 I D s = qSlip I D s := by unfold qC0; rw [pif_f n0, pif_f n1, pif_f w2, pif_f w3, pif_f n4, pif_f n5, pif_f w6, pif_t (b2_ne z7)]
            refine d_needY (b_X13_readClause_138 ⟨fun _ => ⟨fun _ => ⟨fun _ => m_slip L1 hD (fun τ D' e q f hl => ?_) (fun τ k pl q f ht => no e0 τ k pl q (F1.tr f) ht), fun q => absurd rfl q⟩, fun q => absurd rfl q⟩, fun q => absurd rfl q⟩)
            show WP mX13_readClause 180 [vR 14 0, vU, vU, vU] [] τ Q
            exact ok e0 τ D' e q (F1.tr f) hl
        · have w5 := b2_ne z
          have m2 : ¬ isW I 2 s := fun q => by have := isW_ex (by omega) (by omega) q w5; omega
          have m3 : ¬ isW I 3 s := fun q => by have := isW_ex (by omega) (by omega) q w5; omega
          have e0 : qC0 I D s = qStays I D s := by unfold qC0; rw [pif_f n0, pif_f n1, pif_f m2, pif_f m3, pif_f n4, pif_t w5]
          have a3 : σ 14 0 18 = sy D.1 := hL.2.2.2.1.1.2.2.2.1
          have hsy := hD.2.2.2.2.1
          rw [a3]
          refine ⟨fun q => ?_, fun q => d_needY (b_X13_readClause_74 ?_)⟩
          · have e1 : qStays I D s = .inr (3, s) := by unfold qStays; rw [if_pos (hsy.resolve_left q)]
            exact d_needN hL (by omega) (fun τ f ht => no e0 τ 3 s e1 f ht)
          · have e1 : qStays I D s = .inl (((fu D.1.1 3 1, D.1.2), D.2), nx I s) := by unfold qStays; rw [if_neg (by omega)]
            have L1 : LM (up σ 14 0 18 1) I s ((fu D.1.1 3 1, D.1.2), D.2) := hL.w (by omega) (hL.2.2.2.1.sc (FR.rf.u ⟨rfl, rfl⟩) (by
              obtain ⟨⟨c0, c1, c2, c3, c4, c5, c6, c7, c8⟩, -⟩ := hL.2.2.2.1
              exact ⟨by simp [up]; exact c0, by simp [up]; exact c1, by simp [up]; exact c2, by simp [up, sy, fu], by simp [up]; exact c4, by simp [up]; exact c5, by simp [up]; exact c6, by simp [up]; exact c7, by simp [up]; exact c8⟩) rfl rfl)
            refine d_sc L1 (fun τ f L2 => ?_)
            show WP mX13_readClause 83 [vR 14 0, vU, vU, vU] [] τ Q
            exact b_X13_readClause_83 (ok e0 τ _ _ e1 ((FR.rf.u (by unfold rmP; omega)).tr f) L2)
      · have w4 := b2_ne z
        have m2 : ¬ isW I 2 s := fun q => by have := isW_ex (by omega) (by omega) q w4; omega
        have m3 : ¬ isW I 3 s := fun q => by have := isW_ex (by omega) (by omega) q w4; omega
        have e0 : qC0 I D s = qAnswer I D s := by unfold qC0; rw [pif_f n0, pif_f n1, pif_f m2, pif_f m3, pif_t w4]
        refine m_answer hL hD (fun τ D' e q f hl => ?_) (fun τ k pl q f ht => no e0 τ k pl q f ht)
        show WP mX13_readClause 45 [vR 14 0, vU, vU, vU] [] τ Q
        exact b_X13_readClause_45 (ok e0 τ D' e q f hl)
    · have e0 : qC0 I D s = qHabits I D s := by unfold qC0; rw [pif_f n0, pif_t (b2_ne z)]
      refine m_habits hL hD (fun τ D' e q f hl => ?_) (fun τ k pl q f ht => no e0 τ k pl q f ht)
      show WP mX13_readClause 29 [vR 14 0, vU, vU, vU] [] τ Q
      exact b_X13_readClause_29 (ok e0 τ D' e q f hl)
  · have e0 : qC0 I D s = qPeople I D s := by unfold qC0; rw [pif_t (b2_ne z)]
    refine m_people hL hD (fun τ D' e q f hl => ?_) (fun τ k pl q f ht => no e0 τ k pl q f ht)
    show WP mX13_readClause 13 [vR 14 0, vU, vU, vU] [] τ Q
    exact b_X13_readClause_13 (ok e0 τ D' e q f hl)
/-! plain -/
def plP (c i j : Nat) : Prop := i = 0 ∧ ((c = 14 ∧ ((14 ≤ j ∧ j ≤ 16) ∨ (18 ≤ j ∧ j ≤ 23))) ∨ c = 68 ∨ c = 70 ∨ c = 72 ∨ c = 74 ∨ c = 75 ∨ c = 76)
theorem d_plain (h : ∀ τ, FR plP σ τ → DRm τ D0 → Q (.inl none) τ) : WP mX13_plain 0 [vR 14 0, vU, vU] [] σ Q := by
  refine b_X13_plain_0 ?_
  have F0 : FR plP σ (up (up (up (up (up (up (up (up (up σ 14 0 14 4) 14 0 15 2) 14 0 16 0) 14 0 18 0) 14 0 19 0) 14 0 20 0) 14 0 21 0) 14 0 22 0) 14 0 23 0) := ((((((((FR.rf.u (by unfold plP; omega)).u (by unfold plP; omega)).u (by unfold plP; omega)).u (by unfold plP; omega)).u (by unfold plP; omega)).u (by unfold plP; omega)).u (by unfold plP; omega)).u (by unfold plP; omega)).u (by unfold plP; omega)
  have S0 : ∀ ρ, ρ = (up (up (up (up (up (up (up (up (up σ 14 0 14 4) 14 0 15 2) 14 0 16 0) 14 0 18 0) 14 0 19 0) 14 0 20 0) 14 0 21 0) 14 0 22 0) 14 0 23 0) → (ρ 14 0 14 = 4 ∧ ρ 14 0 15 = 2 ∧ ρ 14 0 16 = 0 ∧ ρ 14 0 18 = 0 ∧ ρ 14 0 19 = 0 ∧ ρ 14 0 20 = 0 ∧ ρ 14 0 21 = 0 ∧ ρ 14 0 22 = 0 ∧ ρ 14 0 23 = 0) := fun ρ e => by subst e; refine ⟨?_, ?_, ?_, ?_, ?_, ?_, ?_, ?_, ?_⟩ <;> simp [up]
  replace S0 := S0 _ rfl
  generalize (up (up (up (up (up (up (up (up (up σ 14 0 14 4) 14 0 15 2) 14 0 16 0) 14 0 18 0) 14 0 19 0) 14 0 20 0) 14 0 21 0) 14 0 22 0) 14 0 23 0) = ρ at *
  have lastL : ∀ r p : Nat, r + p = 10 → ∀ τ, FR (fun c i j => i = 0 ∧ 68 ≤ c ∧ c ≤ 76 ∧ c ≠ 69 ∧ c ≠ 71 ∧ c ≠ 73) ρ τ → (∀ j, j < 16 → τ 68 0 j = ge V0 j ∧ τ 75 0 j = 0) → (∀ j, j < 4 → τ 74 0 j = 1 ∧ τ 76 0 j = 0) → (∀ j, j < p → τ 70 0 j = 0 ∧ τ 72 0 j = -1) → WP mX13_plain 118 [vR 14 0, vI (p : Int), vU] [] τ Q := by
    intro r
    induction r with
    | zero =>
      intro p hp τ f g1 g2 g3
      refine b_X13_plain_118 ⟨fun _ => h τ (F0.tr (f.wk (fun c i j z => by unfold plP; omega))) ⟨?_, fun j hj => (g1 j hj).1, fun j hj => (g2 j hj).1, fun j hj => (g3 j (by omega)).1, fun j hj => (g3 j (by omega)).2, fun j hj => (g1 j hj).2, fun j hj => (g2 j hj).2⟩, fun z => by omega⟩
      have g : ∀ j, τ 14 0 j = ρ 14 0 j := fun j => f 14 0 j (by omega)
      rw [g, g, g, g, g, g, g, g, g]
      exact S0
    | succ r ih =>
      intro p hp τ f g1 g2 g3
      refine b_X13_plain_118 ⟨fun z => by omega, fun _ => ⟨⟨by omega, by omega⟩, ⟨by omega, by omega⟩, by unfold in32; omega, ?_⟩⟩
      rw [Int.toNat_natCast]
      refine ih (p + 1) (by omega) _ ((f.u (by omega)).u (by omega)) (fun j hj => by simp [up]; exact g1 j hj) (fun j hj => by simp [up]; exact g2 j hj) (fun j hj => ?_)
      by_cases e : j = p
      · rw [e]; simp [up]
      · simp [up, e]; exact g3 j (by omega)
  have outer : ∀ r i : Nat, r + i = 4 → ∀ τ, FR (fun c i j => i = 0 ∧ 68 ≤ c ∧ c ≤ 76 ∧ c ≠ 69 ∧ c ≠ 71 ∧ c ≠ 73) ρ τ → (∀ j, j < 4 * i → τ 68 0 j = ge V0 j ∧ τ 75 0 j = 0) → (∀ j, j < i → τ 74 0 j = 1 ∧ τ 76 0 j = 0) → WP mX13_plain 47 [vR 14 0, vI (i : Int), vU] [] τ Q := by
    intro r
    induction r with
    | zero =>
      intro i hi τ f g1 g2
      exact b_X13_plain_47 ⟨fun _ => lastL 10 0 (by omega) τ f (fun j hj => g1 j (by omega)) (fun j hj => g2 j (by omega)) (fun j hj => by omega), fun z => by omega⟩
    | succ r ih =>
      intro i hi τ f g1 g2
      refine b_X13_plain_47 ⟨fun z => by omega, fun _ => ?_⟩
      have inner : ∀ r2 j : Nat, r2 + j = 4 → ∀ υ, FR (fun c i j => i = 0 ∧ 68 ≤ c ∧ c ≤ 76 ∧ c ≠ 69 ∧ c ≠ 71 ∧ c ≠ 73) ρ υ → (∀ q, q < 4 * i + j → υ 68 0 q = ge V0 q ∧ υ 75 0 q = 0) → (∀ q, q < i → υ 74 0 q = 1 ∧ υ 76 0 q = 0) → WP mX13_plain 54 [vR 14 0, vI (i : Int), vI (j : Int)] [] υ Q := by
        intro r2
        induction r2 with
        | zero =>
          intro j hj υ f2 k1 k2
          refine b_X13_plain_54 ⟨fun _ => ⟨⟨by omega, by omega⟩, ⟨by omega, by omega⟩, by unfold in32; omega, ?_⟩, fun z => by omega⟩
          rw [Int.toNat_natCast]
          refine ih (i + 1) (by omega) _ ((f2.u (by omega)).u (by omega)) (fun q hq => by simp [up]; exact k1 q (by omega)) (fun q hq => ?_)
          by_cases e : q = i
          · rw [e]; simp [up]
          · simp [up, e]; exact k2 q (by omega)
        | succ r2 ih2 =>
          intro j hj υ f2 k1 k2
          have en : ((4 : Int) * (i : Int) + (j : Int)).toNat = 4 * i + j := by omega
          have step : ∀ v : Int, v = ge V0 (4 * i + j) → WP mX13_plain 54 [vR 14 0, vI (i : Int), vI ((j : Int) + 1)] [] (up (up υ 68 0 (4 * i + j) v) 75 0 (4 * i + j) 0) Q := fun v hv => by
            refine ih2 (j + 1) (by omega) _ ((f2.u (by omega)).u (by omega)) (fun q hq => ?_) (fun q hq => by simp [up]; exact k2 q hq)
            by_cases e : q = 4 * i + j
            · rw [e]; simp [up, hv]
            · simp [up, e]; exact k1 q (by omega)
          refine b_X13_plain_54 ?_
          rw [en]
          refine ⟨fun z => by omega, fun _ => ⟨by unfold in32; omega, by unfold in32; omega, fun z => ⟨⟨by omega, by omega⟩, by unfold in32; omega, by unfold in32; omega, ⟨by omega, by omega⟩, by unfold in32; omega, step 0 ?_⟩, fun z => ⟨⟨by omega, by omega⟩, by unfold in32; omega, by unfold in32; omega, ⟨by omega, by omega⟩, by unfold in32; omega, step 1 ?_⟩⟩⟩
          · show (0 : Int) = if (4 * i + j) % 5 = 0 then 1 else 0
            rw [if_neg (by omega)]
          · show (1 : Int) = if (4 * i + j) % 5 = 0 then 1 else 0
            rw [if_pos (by omega)]
      exact inner 4 0 (by omega) τ f (fun q hq => g1 q (by omega)) g2
  exact outer 4 0 (by omega) ρ FR.rf (fun j hj => by omega) (fun j hj => by omega)
end Mrd3
