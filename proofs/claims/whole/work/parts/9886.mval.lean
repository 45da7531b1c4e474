/-! ===== the model's readValley, takeValley, valley ===== -/
section Mval
variable {σ τ : St} {Q : Res → St → Prop} {I : TXT} {s : Nat} {D : PSt} {k : Int} {pl : Nat}
theorem d_rvAll {n : Int} (hR : DRm σ D) (hD : DOK D) (h4 : ¬ D.2.1 4 = 1) (h : ∀ τ, FR rmP σ τ → DRm τ (mV D, D.2) → τ 14 0 8 = σ 14 0 8 → τ 14 0 9 = σ 14 0 9 → Q (.inl (some (vI n))) τ) : WP mX13_readValley 32 [vR 14 0, vI n, vI 0] [] σ Q := by
  obtain ⟨m, en, n2, n10⟩ : ∃ m : Nat, pe D.1 = (m : Int) ∧ 2 ≤ m ∧ m ≤ 10 := ⟨(pe D.1).toNat, by have := hD.1; omega, by have := hD.1; omega, by have := hD.1; omega⟩
  obtain ⟨⟨a0, a1, a2, a3, a4, a5, a6, a7, a8⟩, b1, b2, b3, b4, b5, b6⟩ := hR
  have hs := shl1 (q := (m : Int)) (by omega) (by omega)
  have e2 : ((2 : Int) ^ (m : Int).toNat) = ((2 ^ m : Nat) : Int) := by rw [Int.toNat_natCast]; push_cast; rfl
  have hp : 2 ^ m ≤ 2 ^ 10 := Nat.pow_le_pow_right (by omega) n10
  have hp0 : 0 < 2 ^ m := Nat.pow_pos (by omega)
  have key : ∀ r p : Nat, r + p = m → ∀ τ, FR (fun c i _ => c = 70 ∧ i = 0) σ τ → (∀ q, q < 10 → τ 70 0 q = if q < p then mAll m q else me D.1 q) → WP mX13_readValley 32 [vR 14 0, vI n, vI (p : Int)] [] τ Q := by
    intro r
    have e0 : ∀ τ, FR (fun c i _ => c = 70 ∧ i = 0) σ τ → τ 14 0 14 = m := fun τ f => by rw [f 14 0 14 (fun z => by omega), a0, en]
    induction r with
    | zero =>
      intro p hp' τ f hm
      have g : ∀ c i j, ¬ (c = 70 ∧ i = 0) → τ c i j = σ c i j := f
      refine b_X13_readValley_32 ⟨fun _ => h τ (f.wk (fun c i j z => by unfold rmP; omega)) ⟨⟨by rw [g 14 0 14 (by omega)]; exact a0, by rw [g 14 0 15 (by omega)]; exact a1, by rw [g 14 0 16 (by omega)]; exact a2, by rw [g 14 0 18 (by omega)]; exact a3, by rw [g 14 0 19 (by omega)]; exact a4, by rw [g 14 0 20 (by omega)]; exact a5, by rw [g 14 0 21 (by omega)]; exact a6, by rw [g 14 0 22 (by omega)]; exact a7, by rw [g 14 0 23 (by omega)]; exact a8⟩, fun j hj => by rw [g 68 0 j (by omega)]; exact b1 j hj, fun j hj => by rw [g 74 0 j (by omega)]; exact b2 j hj, fun j hj => ?_, fun j hj => by rw [g 72 0 j (by omega)]; exact b4 j hj, fun j hj => by rw [g 75 0 j (by omega)]; exact b5 j hj, fun j hj => by rw [g 76 0 j (by omega)]; exact b6 j hj⟩ (g 14 0 8 (by omega)) (g 14 0 9 (by omega)), fun z => by rw [e0 τ f] at z; omega⟩
      rw [hm j hj]
      show _ = if D.2.1 4 = 1 then me D.1 j else if (j : Int) < pe D.1 then mAll (pe D.1) (j : Int) else me D.1 j
      rw [if_neg h4, en]
      by_cases q : j < p
      · rw [if_pos q, if_pos (by omega)]
      · rw [if_neg q, if_neg (by omega)]
    | succ r ih =>
      intro p hp' τ f hm
      refine b_X13_readValley_32 ?_
      rw [e0 τ f, Int.toNat_natCast]
      refine ⟨fun z => by omega, fun _ => ⟨by rw [hs, e2]; unfold in32; omega, ⟨by omega, by omega⟩, by unfold in32; omega, ih (p + 1) (by omega) _ (f.u ⟨rfl, rfl⟩) (fun q hq => ?_)⟩⟩
      by_cases e : q = p
      · rw [e, up_s, if_pos (by omega)]; rfl
      · rw [up_j e, hm q hq]
        by_cases e3 : q < p
        · rw [if_pos e3, if_pos (by omega)]
        · rw [if_neg e3, if_neg (by omega)]
  exact key m 0 (by omega) σ FR.rf (fun q hq => by rw [if_neg (by omega)]; exact b3 q hq)
theorem drm_mV (hR : DRm σ D) (h4 : D.2.1 4 = 1) : DRm σ (mV D, D.2) := by
  obtain ⟨a, b1, b2, b3, b4, b5, b6⟩ := hR
  refine ⟨a, b1, b2, fun j hj => ?_, b4, b5, b6⟩
  rw [b3 j hj]
  show me D.1 j = if D.2.1 4 = 1 then me D.1 j else _
  rw [if_pos h4]
theorem m_rv : ∀ (f : Nat) {s : Nat} {D : PSt} {σ : St} {n : Int}, LM σ I s D → DOK D → I.1 < s + f → 0 ≤ n → n ≤ s →
    (∀ τ D' n', qP I f D s n = .inl (D', n') → DOK D' → FR rmP σ τ → DRm τ (mV D', D'.2) → τ 14 0 8 = 0 → τ 14 0 9 = -1 → Q (.inl (some (vI n'))) τ) → (∀ τ k pl, qP I f D s n = .inr (k, pl) → FR rmP σ τ → TH τ k pl → Q (.inr (13, 0)) τ) → WP mX13_readValley 6 [vR 14 0, vI n, vU] [] σ Q := by
  intro f
  induction f with
  | zero => intro s D σ n hL hD hf; have := hL.2.1; omega
  | succ f ih =>
    intro s D σ n hL hD hf hn0 hns h1 h2
    have hL7 := hL.1.2.1
    have hsl := hL.2.1
    have e6 : σ 14 0 6 = tK I s := hL.2.2.1.2.2.1
    have e22 : σ 14 0 22 = D.2.1 4 := hL.2.2.2.1.1.2.2.2.2.2.2.2.1
    refine b_X13_readValley_6 ?_
    rw [e6, e22]
    refine ⟨fun z => ?_, fun z => ?_⟩
    · have eq : qP I (f + 1) D s n = .inl (D, n) := by rw [qP, if_pos z]
      have hf4 := hD.2.2.2.2.2.2.2.2.2.1 4
      refine ⟨fun q => h1 σ D n eq hD FR.rf (drm_mV hL.2.2.2.1 (hf4.resolve_left q)) hL.2.2.2.2.1 hL.2.2.2.2.2, fun q => d_rvAll hL.2.2.2.1 hD (by omega) (fun τ f1 hr a b => h1 τ D n eq hD f1 hr (by rw [a]; exact hL.2.2.2.2.1) (by rw [b]; exact hL.2.2.2.2.2))⟩
    · have hsL := tK_lt z
      refine m_clause hL hD hsL (fun τ D' e hX f1 L2 => ?_) (fun τ k pl hX f1 ht => h2 τ k pl (qP_no z hX) f1 ht)
      show WP mX13_readValley 17 [vR 14 0, vI n, vU] [] τ Q
      obtain ⟨o1, o2, o3⟩ := ok_c hD hsL hX
      have b1 := nx_gt o3
      have eq0 := qP_ok (f := f) (n := n) z hX
      exact b_X13_readValley_17 ⟨by unfold in32; omega, ih L2 o1 (by omega) (by omega) (by omega) (fun ω D2 n2 q a b c d g => h1 ω D2 n2 (by rw [eq0]; exact q) a (f1.tr b) c d g) (fun ω k pl q a b => h2 ω k pl (by rw [eq0]; exact q) (f1.tr a) b)⟩
/-- the told valley is taken -/
def tkP (c i j : Nat) : Prop := i = 0 ∧ ((c = 14 ∧ ((10 ≤ j ∧ j ≤ 13) ∨ j = 17 ∨ j = 37)) ∨ c = 67 ∨ c = 69 ∨ c = 71 ∨ c = 73 ∨ c = 77)
theorem d_take {V : Vy} {F : (Nat → Int) × (Nat → Int) × (Nat → Int)} {n : Int} (hR : DRm σ (V, F)) (hV : VOK V) (hg : ∀ j, j < 16 → 0 ≤ ge V j ∧ ge V j ≤ 99) (h35 : σ 14 0 35 = -1) (h36 : 0 ≤ σ 14 0 36 ∧ σ 14 0 36 ≤ 99) (h : ∀ τ, FR tkP σ τ → MT τ V → τ 14 0 12 = an V → τ 14 0 13 = n → τ 14 0 37 = 0 → Q (.inl none) τ) : WP mX13_takeValley 0 [vR 14 0, vI n, vU] [] σ Q := by
  obtain ⟨⟨a0, a1, a2, a3, -⟩, b1, b2, b3, b4, -, -⟩ := hR
  have hpe := hV.pe
  have hha := hV.ha
  refine b_X13_takeValley_0 ?_
  rw [a0, a1, a2, a3]
  refine ⟨hV.sy, ?_⟩
  have F0 : FR tkP σ (up (up (up (up (up σ 14 0 10 (pe V)) 14 0 11 (ha V)) 14 0 12 (an V)) 14 0 17 (sy V)) 14 0 13 n) := ((((FR.rf.u (by unfold tkP; omega)).u (by unfold tkP; omega)).u (by unfold tkP; omega)).u (by unfold tkP; omega)).u (by unfold tkP; omega)
  have S0 : ∀ ρ, ρ = (up (up (up (up (up σ 14 0 10 (pe V)) 14 0 11 (ha V)) 14 0 12 (an V)) 14 0 17 (sy V)) 14 0 13 n) → (ρ 14 0 10 = pe V ∧ ρ 14 0 11 = ha V ∧ ρ 14 0 12 = an V ∧ ρ 14 0 17 = sy V ∧ ρ 14 0 13 = n ∧ ρ 14 0 35 = -1 ∧ ρ 14 0 36 = σ 14 0 36) := fun ρ e => by subst e; refine ⟨?_, ?_, ?_, ?_, ?_, ?_, ?_⟩ <;> simp [up, h35]
  replace S0 := S0 _ rfl
  have G : ∀ c j, c ≠ 14 → (up (up (up (up (up σ 14 0 10 (pe V)) 14 0 11 (ha V)) 14 0 12 (an V)) 14 0 17 (sy V)) 14 0 13 n) c 0 j = σ c 0 j := fun c j hc => by simp [up, hc]
  generalize (up (up (up (up (up σ 14 0 10 (pe V)) 14 0 11 (ha V)) 14 0 12 (an V)) 14 0 17 (sy V)) 14 0 13 n) = ρ at *
  obtain ⟨s10, s11, s12, s17, s13, s35, s36⟩ := S0
  -- the four rows and the places: cells 67, 69, 71, 73, 77
  have hP : ∀ p : Nat, (p : Int) ≤ pe V → 0 < ha V ^ p ∧ ha V ^ p ≤ 1024 := fun p hp => by
    refine ⟨pw_pos hV p, ?_⟩
    obtain ⟨H, eH, h2, h4⟩ := hN hV
    have hc := hV.cod
    unfold cod at hc
    rw [eH] at hc ⊢
    have e1 : ((H : Int) ^ (pe V).toNat) = ((H ^ (pe V).toNat : Nat) : Int) := by push_cast; rfl
    have e3 : ((H : Int) ^ p) = ((H ^ p : Nat) : Int) := by push_cast; rfl
    have : H ^ p ≤ H ^ (pe V).toNat := Nat.pow_le_pow_right (by omega) (by omega)
    rw [e1] at hc
    rw [e3]
    omega
  have l5 : ∀ r p : Nat, ((r + p : Nat) : Int) = pe V → ∀ τ, FR (fun c i j => i = 0 ∧ (c = 67 ∨ c = 69 ∨ c = 71 ∨ c = 73 ∨ c = 77)) ρ τ → (∀ j, j < 16 → τ 67 0 j = ge V j) → (∀ j, j < 10 → τ 69 0 j = me V j ∧ τ 71 0 j = ke V j) → (∀ j, j < 4 → τ 73 0 j = sl V j) → (∀ j, j ≤ p → τ 77 0 j = ha V ^ j) → WP mX13_takeValley 135 [vR 14 0, vU, vI (p : Int)] [] τ Q := by
    intro r
    induction r with
    | zero =>
      intro p hp τ f g1 g2 g3 g4
      have g : ∀ j, τ 14 0 j = ρ 14 0 j := fun j => f 14 0 j (by omega)
      refine b_X13_takeValley_135 ⟨fun _ => h _ ((F0.tr (f.wk (fun c i j z => by unfold tkP; omega))).u (by unfold tkP; omega)) ⟨by simp [up, g, s10], by simp [up, g, s11], by simp [up, g, s17], fun x j hx hj => ?_, fun j hj => by simp [up]; exact g3 j hj, fun j hj => by simp [up]; exact (g2 j hj).1, fun j hj => by simp [up]; exact (g2 j hj).2, fun q hq => by simp [up]; exact g4 q (by omega), by simp [up, g, s36]; exact h36⟩ (by simp [up, g, s12]) (by simp [up, g, s13]) (by simp [up]), fun z => by rw [g, s10] at z; omega⟩
      have e35 : (up τ 14 0 37 0) 14 0 35 = -1 := by simp [up, g, s35]
      have e67 : (up τ 14 0 37 0) 67 0 (4 * x + j) = ge V (4 * x + j) := by simp [up]; exact g1 _ (by omega)
      rw [e35, e67, if_neg (by omega)]
      have := hg (4 * x + j) (by omega)
      omega
    | succ r ih =>
      intro p hp τ f g1 g2 g3 g4
      have g : ∀ j, τ 14 0 j = ρ 14 0 j := fun j => f 14 0 j (by omega)
      have q1 := hP (p + 1) (by omega)
      have e1 : τ 77 0 p = ha V ^ p := g4 p (Nat.le_refl _)
      refine b_X13_takeValley_135 ?_
      rw [g, s10, g, s11, Int.toNat_natCast, e1, show ((p : Int) + 1).toNat = p + 1 by omega, show ha V ^ p * ha V = ha V ^ (p + 1) from (Int.pow_succ ..).symm]
      refine ⟨fun z => by omega, fun _ => ⟨by unfold in32; omega, ⟨by omega, by omega⟩, by unfold in32; omega, ⟨by omega, by omega⟩, by unfold in32; omega, ?_⟩⟩
      refine ih (p + 1) (by omega) _ (f.u (by omega)) (fun j hj => by simp [up]; exact g1 j hj) (fun j hj => by simp [up]; exact g2 j hj) (fun j hj => by simp [up]; exact g3 j hj) (fun j hj => ?_)
      by_cases e : j = p + 1
      · rw [e, up_s]
      · rw [up_j e]; exact g4 j (by omega)
  have l4 : ∀ r p : Nat, r + p = 4 → ∀ τ, FR (fun c i j => i = 0 ∧ (c = 67 ∨ c = 69 ∨ c = 71 ∨ c = 73 ∨ c = 77)) ρ τ → (∀ j, j < 16 → τ 67 0 j = ge V j) → (∀ j, j < 10 → τ 69 0 j = me V j ∧ τ 71 0 j = ke V j) → (∀ j, j < p → τ 73 0 j = sl V j) → WP mX13_takeValley 103 [vR 14 0, vU, vI (p : Int)] [] τ Q := by
    intro r
    induction r with
    | zero =>
      intro p hp τ f g1 g2 g3
      refine b_X13_takeValley_103 ⟨fun _ => ?_, fun z => by omega⟩
      refine l5 (pe V).toNat 0 (by omega) _ (f.u (by omega)) (fun j hj => by simp [up]; exact g1 j hj) (fun j hj => by simp [up]; exact g2 j hj) (fun j hj => by simp [up]; exact g3 j (by omega)) (fun j hj => ?_)
      rw [show j = 0 by omega, up_s]; simp
    | succ r ih =>
      intro p hp τ f g1 g2 g3
      have e1 : τ 74 0 p = sl V p := by rw [f 74 0 p (by omega), G 74 p (by omega)]; exact b2 p (by omega)
      refine b_X13_takeValley_103 ?_
      rw [Int.toNat_natCast, e1]
      refine ⟨fun z => by omega, fun _ => ⟨⟨by omega, by omega⟩, ⟨by omega, by omega⟩, by unfold in32; omega, ih (p + 1) (by omega) _ (f.u (by omega)) (fun j hj => by simp [up]; exact g1 j hj) (fun j hj => by simp [up]; exact g2 j hj) (fun j hj => ?_)⟩⟩
      by_cases e : j = p
      · rw [e, up_s]
      · rw [up_j e]; exact g3 j (by omega)
  have l3 : ∀ r p : Nat, r + p = 10 → ∀ τ, FR (fun c i j => i = 0 ∧ (c = 67 ∨ c = 69 ∨ c = 71 ∨ c = 73 ∨ c = 77)) ρ τ → (∀ j, j < 16 → τ 67 0 j = ge V j) → (∀ j, j < p → τ 69 0 j = me V j ∧ τ 71 0 j = ke V j) → WP mX13_takeValley 65 [vR 14 0, vU, vI (p : Int)] [] τ Q := by
    intro r
    induction r with
    | zero =>
      intro p hp τ f g1 g2
      exact b_X13_takeValley_65 ⟨fun _ => l4 4 0 (by omega) τ f g1 (fun j hj => g2 j (by omega)) (fun j hj => by omega), fun z => by omega⟩
    | succ r ih =>
      intro p hp τ f g1 g2
      have e1 : τ 70 0 p = me V p := by rw [f 70 0 p (by omega), G 70 p (by omega)]; exact b3 p (by omega)
      have e2 : τ 72 0 p = ke V p := by rw [f 72 0 p (by omega), G 72 p (by omega)]; exact b4 p (by omega)
      refine b_X13_takeValley_65 ?_
      rw [Int.toNat_natCast, e1, e2]
      refine ⟨fun z => by omega, fun _ => ⟨⟨by omega, by omega⟩, ⟨by omega, by omega⟩, ⟨by omega, by omega⟩, ⟨by omega, by omega⟩, by unfold in32; omega, ih (p + 1) (by omega) _ ((f.u (by omega)).u (by omega)) (fun j hj => by simp [up]; exact g1 j hj) (fun j hj => ?_)⟩⟩
      by_cases e : j = p
      · rw [e]; simp [up]
      · simp [up, e]; exact g2 j (by omega)
  have l2 : ∀ r p : Nat, r + p = 16 → ∀ τ, FR (fun c i j => i = 0 ∧ (c = 67 ∨ c = 69 ∨ c = 71 ∨ c = 73 ∨ c = 77)) ρ τ → (∀ j, j < p → τ 67 0 j = ge V j) → WP mX13_takeValley 39 [vR 14 0, vU, vI (p : Int)] [] τ Q := by
    intro r
    induction r with
    | zero =>
      intro p hp τ f g1
      exact b_X13_takeValley_39 ⟨fun _ => l3 10 0 (by omega) τ f (fun j hj => g1 j (by omega)) (fun j hj => by omega), fun z => by omega⟩
    | succ r ih =>
      intro p hp τ f g1
      have e1 : τ 68 0 p = ge V p := by rw [f 68 0 p (by omega), G 68 p (by omega)]; exact b1 p (by omega)
      refine b_X13_takeValley_39 ?_
      rw [Int.toNat_natCast, e1]
      refine ⟨fun z => by omega, fun _ => ⟨⟨by omega, by omega⟩, ⟨by omega, by omega⟩, by unfold in32; omega, ih (p + 1) (by omega) _ (f.u (by omega)) (fun j hj => ?_)⟩⟩
      by_cases e : j = p
      · rw [e, up_s]
      · rw [up_j e]; exact g1 j (by omega)
  exact l2 16 0 (by omega) ρ FR.rf (fun j hj => by omega)
def vmP (c i j : Nat) : Prop := i = 0 ∧ ((c = 14 ∧ ((2 ≤ j ∧ j ≤ 23) ∨ j = 37 ∨ j = 55 ∨ j = 62 ∨ j = 71 ∨ j = 76 ∨ (83 ≤ j ∧ j ≤ 85))) ∨ (67 ≤ c ∧ c ≤ 77))
theorem d_valley (hI1 : σ 14 0 2 = (I.1 : Int)) (hI2 : I.1 ≤ 700) (hI3 : ∀ k, k < I.1 → band (σ 66 0 k) 255 = I.2 k ∧ (0 ≤ I.2 k ∧ I.2 k ≤ 255) ∧ -128 ≤ σ 66 0 k ∧ σ 66 0 k ≤ 127) (h35 : σ 14 0 35 = -1) (h36 : 0 ≤ σ 14 0 36 ∧ σ 14 0 36 ≤ 99)
    (h1 : ∀ τ D n, qV I = .inl (D, n) → DOK D → FR vmP σ τ → MT τ (mV D) → τ 14 0 12 = an (mV D) → τ 14 0 13 = n → τ 14 0 37 = 0 → τ 14 0 2 = 0 → τ 14 0 8 = 0 → τ 14 0 9 = -1 → (τ 14 0 83 = 0 ∧ τ 14 0 84 = 0 ∧ τ 14 0 85 = 0 ∧ τ 14 0 55 = 0 ∧ τ 14 0 62 = 0 ∧ τ 14 0 71 = 0 ∧ τ 14 0 76 = 0) → Q (.inl (some (vI n))) τ)
    (h2 : ∀ τ k pl, qV I = .inr (k, pl) → FR (fun c i j => i = 0 ∧ ((c = 14 ∧ ((2 ≤ j ∧ j ≤ 9) ∨ (14 ≤ j ∧ j ≤ 16) ∨ (18 ≤ j ∧ j ≤ 23))) ∨ c = 68 ∨ c = 70 ∨ c = 72 ∨ c = 74 ∨ c = 75 ∨ c = 76)) σ τ → τ 14 0 2 = 0 → TH τ k pl → Q (.inl (some (vI (-1)))) τ) : WP mX13_valley 0 [vR 14 0, vU, vU] [] σ Q := by
  refine b_X13_valley_0 (b_X13_begin_0 ?_)
  have E : ∀ ρ, ρ = (up (up (up (up (up σ 14 0 3 (σ 14 0 2)) 14 0 2 0) 14 0 5 0) 14 0 8 0) 14 0 9 (-1)) → (ρ 14 0 3 = (I.1 : Int) ∧ ρ 14 0 2 = 0 ∧ ρ 14 0 5 = ((0 : Nat) : Int) ∧ ρ 14 0 8 = 0 ∧ ρ 14 0 9 = -1 ∧ (∀ k, ρ 66 0 k = σ 66 0 k)) := fun ρ e => by subst e; refine ⟨?_, ?_, ?_, ?_, ?_, fun k => ?_⟩ <;> simp [up, hI1]
  replace E := E _ rfl
  have F0 : FR (fun c i j => c = 14 ∧ i = 0 ∧ 2 ≤ j ∧ j ≤ 9) σ (up (up (up (up (up σ 14 0 3 (σ 14 0 2)) 14 0 2 0) 14 0 5 0) 14 0 8 0) 14 0 9 (-1)) := ((((FR.rf.u (by omega)).u (by omega)).u (by omega)).u (by omega)).u (by omega)
  generalize (up (up (up (up (up σ 14 0 3 (σ 14 0 2)) 14 0 2 0) 14 0 5 0) 14 0 8 0) 14 0 9 (-1)) = ρ at *
  obtain ⟨e3, e2, e5, e8, e9, e66⟩ := E
  have hT : TPm ρ I := ⟨e3, hI2, fun k hk => by rw [e66]; exact hI3 k hk⟩
  refine d_scan hT e5 (by omega) (fun τ f hk => ?_)
  show WP mX13_begin 32 [vU] [] τ _
  refine b_X13_begin_32 ?_
  show WP mX13_valley 4 [vR 14 0, vU, vU] [] τ Q
  refine b_X13_valley_4 (b_X13_readValley_0 (d_plain (fun υ f2 hR => ?_)))
  show WP mX13_readValley 4 [vR 14 0, vU, vU] [] υ _
  have g2 : ∀ j, 2 ≤ j → j ≤ 9 → υ 14 0 j = τ 14 0 j := fun j a b => f2 14 0 j (by unfold plP; omega)
  have g1 : ∀ j, j = 2 ∨ j = 3 ∨ j = 8 ∨ j = 9 → τ 14 0 j = ρ 14 0 j := fun j a => f 14 0 j (by unfold tmP; omega)
  have L0 : LM υ I (tS I 0) D0 := by
    refine ⟨(hT.fr f (by unfold tmP; omega)).fr f2 (by unfold plP; omega), tS_le (by omega), ?_, hR, by rw [g2 8 (by omega) (by omega), g1 8 (by omega)]; exact e8, by rw [g2 9 (by omega) (by omega), g1 9 (by omega)]; exact e9⟩
    obtain ⟨k1, k2, k3, k4⟩ := hk
    exact ⟨by rw [g2 4 (by omega) (by omega)]; exact k1, by rw [g2 5 (by omega) (by omega)]; exact k2, by rw [g2 6 (by omega) (by omega)]; exact k3, fun z => by rw [g2 7 (by omega) (by omega)]; exact k4 z⟩
  have u2 : υ 14 0 2 = 0 := by rw [g2 2 (by omega) (by omega), g1 2 (by omega)]; exact e2
  have FF : FR (fun c i j => i = 0 ∧ ((c = 14 ∧ ((2 ≤ j ∧ j ≤ 9) ∨ (14 ≤ j ∧ j ≤ 16) ∨ (18 ≤ j ∧ j ≤ 23))) ∨ c = 68 ∨ c = 70 ∨ c = 72 ∨ c = 74 ∨ c = 75 ∨ c = 76)) σ υ := ((F0.wk (fun c i j z => by omega)).tr (f.wk (fun c i j z => by unfold tmP at z; omega))).tr (f2.wk (fun c i j z => by unfold plP at z; omega))
  refine b_X13_readValley_4 (m_rv 702 L0 dok0 (by omega) (by omega) (by omega) (fun ω D n hq hD f3 hr a b => ?_) (fun ω k pl hq f3 ht => ?_))
  · show WP mX13_valley 8 [vR 14 0, vU, vU] [vI n] ω Q
    have F3 := FF.tr (f3.wk (fun c i j z => by unfold rmP at z; omega))
    have w35 : ω 14 0 35 = σ 14 0 35 := F3 14 0 35 (by omega)
    have w36 : ω 14 0 36 = σ 14 0 36 := F3 14 0 36 (by omega)
    have w2 : ω 14 0 2 = 0 := by rw [f3 14 0 2 (by unfold rmP; omega)]; exact u2
    refine b_X13_valley_8 (d_take hr (vok_mV hD) (fun j hj => hD.2.2.2.2.2.1 j hj) (by rw [w35]; exact h35) (by rw [w36]; exact h36) (fun ω2 f4 hM m12 m13 m37 => ?_))
    show WP mX13_valley 20 [vR 14 0, vI n, vU] [] ω2 Q
    have F4 : FR vmP σ ω2 := (F3.wk (fun c i j z => by unfold vmP; omega)).tr (f4.wk (fun c i j z => by unfold tkP at z; unfold vmP; omega))
    have F5 : FR (fun c i j => c = 14 ∧ i = 0 ∧ (83 ≤ j ∨ j = 55 ∨ j = 62 ∨ j = 71 ∨ j = 76)) ω2 (up (up (up (up (up (up (up ω2 14 0 83 0) 14 0 84 0) 14 0 85 0) 14 0 55 0) 14 0 62 0) 14 0 71 0) 14 0 76 0) := ((((((FR.rf.u (by omega)).u (by omega)).u (by omega)).u (by omega)).u (by omega)).u (by omega)).u (by omega)
    refine b_X13_valley_20 (h1 _ D n hq hD (((((((F4.u (by unfold vmP; omega)).u (by unfold vmP; omega)).u (by unfold vmP; omega)).u (by unfold vmP; omega)).u (by unfold vmP; omega)).u (by unfold vmP; omega)).u (by unfold vmP; omega)) (hM.fr F5 (fun c j hc => by omega)) ?_ ?_ ?_ ?_ ?_ ?_ ⟨?_, ?_, ?_, ?_, ?_, ?_, ?_⟩)
    · simp [up, m12]
    · simp [up, m13]
    · simp [up, m37]
    · have : ω2 14 0 2 = ω 14 0 2 := f4 14 0 2 (by unfold tkP; omega)
      simp [up, this, w2]
    · have : ω2 14 0 8 = ω 14 0 8 := f4 14 0 8 (by unfold tkP; omega)
      simp [up, this, a]
    · have : ω2 14 0 9 = ω 14 0 9 := f4 14 0 9 (by unfold tkP; omega)
      simp [up, this, b]
    all_goals simp [up]
  · show (13, 0) = (13, 0) ∧ WP mX13_valley 12 [vU, vU, vU] [vR 13 0] ω Q
    exact ⟨rfl, b_X13_valley_12 (h2 ω k pl hq (FF.tr (f3.wk (fun c i j z => by unfold rmP at z; omega))) (by rw [f3 14 0 2 (by unfold rmP; omega)]; exact u2) ht)⟩
end Mval
