/-! ===== the class' Valley: what it holds, its methods ===== -/
def FR (P : Nat → Nat → Nat → Prop) (σ σ' : St) : Prop := ∀ c i j, ¬ P c i j → σ' c i j = σ c i j
theorem FR.rf {P : Nat → Nat → Nat → Prop} {σ : St} : FR P σ σ := fun _ _ _ _ => rfl
theorem FR.tr {P : Nat → Nat → Nat → Prop} {σ τ υ : St} (h : FR P σ τ) (k : FR P τ υ) : FR P σ υ := fun c i j q => (k c i j q).trans (h c i j q)
theorem FR.wk {P P' : Nat → Nat → Nat → Prop} {σ τ : St} (h : FR P σ τ) (k : ∀ c i j, P c i j → P' c i j) : FR P' σ τ := fun c i j q => h c i j (fun z => q (k c i j z))
theorem FR.u {P : Nat → Nat → Nat → Prop} {σ τ : St} (h : FR P σ τ) {c i j : Nat} {x : Int} (hp : P c i j) : FR P σ (up τ c i j x) := by
  intro c' i' j' q
  unfold up
  rw [if_neg]
  · exact h c' i' j' q
  · rintro ⟨rfl, rfl, rfl⟩; exact q hp
theorem FR.uR {P : Nat → Nat → Nat → Prop} {σ τ : St} (h : FR P σ τ) {c i d n : Nat} {f : Nat → Int} (hp : ∀ j, d ≤ j → j < d + n → P c i j) : FR P σ (upR τ c i d n f) := by
  intro c' i' j' q
  unfold upR
  rw [if_neg]
  · exact h c' i' j' q
  · rintro ⟨rfl, rfl, h1, h2⟩; exact q (hp _ h1 h2)
def VT (σ : St) (i : Nat) (V : Vy) : Prop := σ 10 i 0 = pe V ∧ σ 10 i 1 = ha V ∧ σ 10 i 2 = an V ∧ σ 10 i 3 = sy V ∧ (∀ j, j < 16 → σ 54 i j = ge V j) ∧ (∀ j, j < 4 → σ 55 i j = sl V j) ∧ (∀ j, j < 10 → σ 56 i j = me V j) ∧ (∀ j, j < 10 → σ 57 i j = ke V j)
def VP (σ : St) (i : Nat) (V : Vy) : Prop := (∀ p : Nat, (p : Int) ≤ pe V → σ 60 i p = ha V ^ p) ∧ σ 10 i 11 = cod V
def VF (σ : St) (i : Nat) (V : Vy) : Prop := (0 ≤ σ 10 i 9 ∧ σ 10 i 9 < 1024) ∧ (∀ p : Nat, tbit (σ 10 i 9) p = true ↔ (p : Int) < pe V ∧ ke V p = -1) ∧ σ 10 i 10 = bcnt (σ 10 i 9)
def VL (σ : St) (i : Nat) (V : Vy) : Prop := (0 ≤ σ 10 i 12 ∧ σ 10 i 12 ≤ 1024) ∧ (∀ j : Nat, (j : Int) < σ 10 i 12 → isSt V (σ 61 i j)) ∧ (∀ j k : Nat, j < k → (k : Int) < σ 10 i 12 → σ 61 i j < σ 61 i k) ∧ (∀ s, isSt V s → ∃ j : Nat, (j : Int) < σ 10 i 12 ∧ σ 61 i j = s) ∧ σ 10 i 12 = (cnt (fun k => isSt V (k : Int)) (cod V).toNat : Int)
def VM (σ : St) (i : Nat) (V : Vy) : Prop := (0 ≤ σ 10 i 13 ∧ σ 10 i 13 ≤ 40) ∧ (∀ j : Nat, (j : Int) < σ 10 i 13 → ∃ p : Nat, (p : Int) < pe V ∧ ke V p = -1 ∧ σ 58 i j = p ∧ 0 ≤ σ 59 i j ∧ σ 59 i j < ha V) ∧ (∀ p : Nat, (p : Int) < pe V → ke V p = -1 → ∀ h, 0 ≤ h → h < ha V → ∃ j : Nat, (j : Int) < σ 10 i 13 ∧ σ 58 i j = p ∧ σ 59 i j = h)
def VA (σ : St) (i : Nat) (V : Vy) : Prop := VT σ i V ∧ VP σ i V ∧ VF σ i V ∧ VL σ i V ∧ VM σ i V
section VC
variable {i : Nat} {σ : St} {Q : Res → St → Prop} {V : Vy}
theorem VT.pe (h : VT σ i V) : σ 10 i 0 = pe V := h.1
theorem VT.ha (h : VT σ i V) : σ 10 i 1 = ha V := h.2.1
theorem VT.an (h : VT σ i V) : σ 10 i 2 = an V := h.2.2.1
theorem VT.sy (h : VT σ i V) : σ 10 i 3 = sy V := h.2.2.2.1
theorem VT.ge (h : VT σ i V) : ∀ j, j < 16 → σ 54 i j = ge V j := h.2.2.2.2.1
theorem VT.sl (h : VT σ i V) : ∀ j, j < 4 → σ 55 i j = sl V j := h.2.2.2.2.2.1
theorem VT.me (h : VT σ i V) : ∀ j, j < 10 → σ 56 i j = me V j := h.2.2.2.2.2.2.1
theorem VT.ke (h : VT σ i V) : ∀ j, j < 10 → σ 57 i j = ke V j := h.2.2.2.2.2.2.2
theorem c_isState {x1 : Int} (hV : VOK V) (hT : VT σ i V) (hP : VP σ i V) (h : Q (.inl (some (vI (b2 (isSt V x1))))) σ) : WP mX9_isState 0 [vR 10 i, vI x1, vU] [] σ Q := by
  have hpe := hV.pe
  have hha := hV.ha
  refine b_X9_isState_0 ⟨fun h0 => ?_, fun h0 => ⟨fun h1 => ?_, fun h1 => ?_⟩⟩
  · rw [b2_f (fun q => by have := q.1.1; omega)] at h; exact h
  · rw [hP.2] at h1
    have key : ∀ n p : Nat, ((n + p : Nat) : Int) = pe V → (∀ q : Nat, q < p → ke V q ≠ -1 → hab V x1 q = ke V q) → WP mX9_isState 16 [vR 10 i, vI x1, vI (p : Int)] [] σ Q := by
      intro n
      induction n with
      | zero =>
        intro p hp hq
        refine b_X9_isState_16 ⟨fun _ => ?_, fun q => by rw [hT.pe] at q; omega⟩
        rw [b2_t ⟨⟨h0, h1⟩, fun q hq1 hq2 => hq q (by omega) hq2⟩] at h; exact h
      | succ n ih =>
        intro p hp hq
        have e60 := hP.1 p (by omega)
        have e57 := hT.ke p (by omega)
        have hpp := pw_pos hV p
        refine b_X9_isState_16 ?_
        simp only [Int.toNat_natCast, e60, e57, hT.pe, hT.ha]
        refine ⟨fun q => by omega, fun _ => ⟨⟨by omega, by omega⟩, fun hk => ⟨by unfold in32; omega, ih (p + 1) (by omega) (fun q hq1 hq2 => ?_)⟩, fun hk => ⟨⟨by omega, by omega⟩, ⟨by omega, by omega, h0, hpp, Int.ediv_nonneg h0 (Int.le_of_lt hpp), by omega⟩, fun he => ⟨by unfold in32; omega, ih (p + 1) (by omega) (fun q hq1 hq2 => ?_)⟩, fun he => ?_⟩⟩⟩
        · by_cases e : q = p
          · subst e; exact absurd hk hq2
          · exact hq q (by omega) hq2
        · by_cases e : q = p
          · subst e; exact he.symm
          · exact hq q (by omega) hq2
        · rw [b2_f (fun q => he (q.2 p (by omega) hk).symm)] at h; exact h
    exact key (pe V).toNat 0 (by omega) (fun q hq => by omega)
  · rw [hP.2] at h1
    rw [b2_f (fun q => by have := q.1.2; omega)] at h; exact h
theorem c_worthIn {x1 : Int} {p : Nat} (hV : VOK V) (hT : VT σ i V) (hP : VP σ i V) (hx : 0 ≤ x1) (hp : (p : Int) < pe V) (h : Q (.inl (some (vI (wor V x1 p (hab V x1 p))))) σ) : WP mX9_worthIn 0 [vR 10 i, vI x1, vI (p : Int), vU, vU, vU] [] σ Q := by
  have hpe := hV.pe
  have hha := hV.ha
  have hpw := pw_pos hV
  have hb := hab_bd hV x1
  refine b_X9_worthIn_0 ?_
  simp only [Int.toNat_natCast, hP.1 p (by omega), hT.ha]
  refine ⟨⟨by omega, by omega, hx, hpw p, Int.ediv_nonneg hx (Int.le_of_lt (hpw p)), by omega⟩, ?_⟩
  have key : ∀ n q : Nat, ((n + q : Nat) : Int) = pe V → WP mX9_worthIn 13 [vR 10 i, vI x1, vI (p : Int), vI (sm (fun q => if tbit (me V p) q then ge V (4 * hab V x1 p + hab V x1 q).toNat else 0) q), vI (hab V x1 p), vI (q : Int)] [] σ Q := by
    intro n
    induction n with
    | zero =>
      intro q hq
      refine b_X9_worthIn_13 ⟨fun _ => ?_, fun z => by rw [hT.pe] at z; omega⟩
      unfold wor at h
      rw [show (pe V).toNat = q by omega] at h
      exact h
    | succ n ih =>
      intro q hq
      have hm := hV.me p (by omega)
      have hbp := hb p
      have hbq := hb q
      have hg := hV.ge (hab V x1 p * 4 + hab V x1 q).toNat (by omega)
      have hbd := sm_bd (f := fun q => if tbit (me V p) q then ge V (4 * hab V x1 p + hab V x1 q).toNat else 0) (b := 198) (by omega) (n := q) (fun k hk => by
        have := hV.ge (4 * hab V x1 p + hab V x1 k).toNat (by have := hb k; omega)
        by_cases ht : tbit (me V p) k = true
        · simp only [ht, if_true]; exact this
        · simp only [ht]; simp)
      refine b_X9_worthIn_13 ?_
      simp only [Int.toNat_natCast, hP.1 q (by omega), hT.pe, hT.ha, hT.me p (by omega), band_eq0 hm.1 hm.2 (show (0 : Int) ≤ q by omega) (by omega), band_ne hm.1 hm.2 (show (0 : Int) ≤ q by omega) (by omega)]
      refine ⟨fun z => by omega, fun _ => ⟨⟨by omega, by omega⟩, fun ht => ⟨by unfold in32; omega, ?_⟩, fun ht => ⟨by unfold in32; omega, ⟨by omega, by omega, hx, hpw q, Int.ediv_nonneg hx (Int.le_of_lt (hpw q)), by omega⟩, ?_⟩⟩⟩
      · have := ih (q + 1) (by omega)
        rw [sm] at this
        simp only [ht] at this
        simpa using this
      · show in32 (hab V x1 p * 4 + hab V x1 q) ∧ _
        have e1 : σ 54 i (hab V x1 p * 4 + hab V x1 q).toNat = ge V (4 * hab V x1 p + hab V x1 q).toNat := by
          rw [hT.ge _ (by omega)]
          congr 1
          omega
        have e2 : (hab V x1 p * 4 + hab V x1 q).toNat = (4 * hab V x1 p + hab V x1 q).toNat := by omega
        rw [e2] at hg
        refine ⟨by unfold in32; omega, ⟨by show 0 ≤ hab V x1 p * 4 + hab V x1 q; omega, by show hab V x1 p * 4 + hab V x1 q < 16; omega⟩, ?_⟩
        show in32 (_ + σ 54 i (hab V x1 p * 4 + hab V x1 q).toNat) ∧ in32 _ ∧ WP mX9_worthIn 13 [vR 10 i, vI x1, vI (p : Int), vI (_ + σ 54 i (hab V x1 p * 4 + hab V x1 q).toNat), vI (hab V x1 p), vI ((q : Int) + 1)] [] σ Q
        rw [e1]
        refine ⟨by unfold in32; omega, by unfold in32; omega, ?_⟩
        have := ih (q + 1) (by omega)
        rw [sm] at this
        simp only [ht, if_true] at this
        exact this
  exact key (pe V).toNat 0 (by omega)
end VC
