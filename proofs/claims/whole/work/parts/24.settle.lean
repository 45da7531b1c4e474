/-! ===== Valley.settle ===== -/
def aP (i : Nat) (c i' j : Nat) : Prop := i' = i ∧ (c = 58 ∨ c = 59 ∨ (c = 10 ∧ j = 13))
def lP (i : Nat) (c i' j : Nat) : Prop := i' = i ∧ (c = 61 ∨ (c = 10 ∧ j = 12))
def zP (i : Nat) (c i' j : Nat) : Prop := i' = i ∧ (c = 58 ∨ c = 59 ∨ c = 60 ∨ c = 61 ∨ (c = 10 ∧ 9 ≤ j ∧ j ≤ 13))
theorem VT.fr {P : Nat → Nat → Nat → Prop} {σ τ : St} {i : Nat} {V : Vy} (h : VT σ i V) (k : FR P σ τ) (hP : ∀ c j, (c = 10 ∧ j ≤ 3) ∨ (54 ≤ c ∧ c ≤ 57) → ¬ P c i j) : VT τ i V := by
  obtain ⟨h0, h1, h2, h3, h4, h5, h6, h7⟩ := h
  refine ⟨?_, ?_, ?_, ?_, fun j hj => ?_, fun j hj => ?_, fun j hj => ?_, fun j hj => ?_⟩
  · rw [k _ _ _ (hP _ _ (by omega))]; exact h0
  · rw [k _ _ _ (hP _ _ (by omega))]; exact h1
  · rw [k _ _ _ (hP _ _ (by omega))]; exact h2
  · rw [k _ _ _ (hP _ _ (by omega))]; exact h3
  · rw [k _ _ _ (hP _ _ (by omega))]; exact h4 j hj
  · rw [k _ _ _ (hP _ _ (by omega))]; exact h5 j hj
  · rw [k _ _ _ (hP _ _ (by omega))]; exact h6 j hj
  · rw [k _ _ _ (hP _ _ (by omega))]; exact h7 j hj
section Settle
variable {i : Nat} {σ : St} {Q : Res → St → Prop} {V : Vy}
theorem c_addMoves {p : Nat} (hV : VOK V) (hT : VT σ i V) (hm : 0 ≤ σ 10 i 13) (hm2 : σ 10 i 13 + ha V ≤ 40) (h : ∀ σ', FR (aP i) σ σ' → σ' 10 i 13 = σ 10 i 13 + ha V → (∀ j : Nat, (j : Int) < σ 10 i 13 → σ' 58 i j = σ 58 i j ∧ σ' 59 i j = σ 59 i j) → (∀ k : Nat, (k : Int) < ha V → σ' 58 i ((σ 10 i 13).toNat + k) = p ∧ σ' 59 i ((σ 10 i 13).toNat + k) = k) → Q (.inl none) σ') : WP mX9_addMoves 0 [vR 10 i, vI (p : Int), vU] [] σ Q := by
  have hha := hV.ha
  refine b_X9_addMoves_0 ?_
  have key : ∀ n k : Nat, ((n + k : Nat) : Int) = ha V → ∀ τ, FR (aP i) σ τ → τ 10 i 13 = σ 10 i 13 + k → (∀ j : Nat, (j : Int) < σ 10 i 13 → τ 58 i j = σ 58 i j ∧ τ 59 i j = σ 59 i j) → (∀ k' : Nat, k' < k → τ 58 i ((σ 10 i 13).toNat + k') = p ∧ τ 59 i ((σ 10 i 13).toNat + k') = k') → WP mX9_addMoves 2 [vR 10 i, vI (p : Int), vI (k : Int)] [] τ Q := by
    intro n
    induction n with
    | zero =>
      intro k hk τ hF h1 h2 h3
      have e1 := (hT.fr hF (fun c j hc z => by unfold aP at z; omega)).ha
      refine b_X9_addMoves_2 ⟨fun _ => h τ hF (by omega) h2 (fun k' hk' => h3 k' (by omega)), fun q => by omega⟩
    | succ n ih =>
      intro k hk τ hF h1 h2 h3
      have e1 := (hT.fr hF (fun c j hc z => by unfold aP at z; omega)).ha
      refine b_X9_addMoves_2 ⟨fun q => by omega, fun _ => ⟨⟨by omega, by omega⟩, ⟨by omega, by omega⟩, by unfold in32; omega, by unfold in32; omega, ?_⟩⟩
      have em : (τ 10 i 13).toNat = (σ 10 i 13).toNat + k := by omega
      refine ih (k + 1) (by omega) _ (((hF.u ⟨rfl, by omega⟩).u ⟨rfl, by omega⟩).u ⟨rfl, by omega⟩) ?_ (fun j hj => ?_) (fun k' hk' => ?_)
      · simp [up]; omega
      · have hne : j ≠ (σ 10 i 13).toNat + k := by omega
        simp [up, em, hne]
        exact h2 j hj
      · by_cases e : k' = k
        · subst e
          simp [up, em]
        · simp [up, em, e]
          exact h3 k' (by omega)
  exact key (ha V).toNat 0 (by omega) σ FR.rf (by simp) (fun j _ => ⟨rfl, rfl⟩) (fun k' hk' => by omega)
/-- what the first loop has done -/
def s1I (σ : St) (i : Nat) (V : Vy) (p : Nat) (τ : St) : Prop := FR (zP i) σ τ ∧ (∀ q : Nat, q ≤ p → τ 60 i q = ha V ^ q) ∧ (0 ≤ τ 10 i 9 ∧ (τ 10 i 9).toNat < 2 ^ 10) ∧ (∀ q : Nat, tbit (τ 10 i 9) q = true ↔ q < p ∧ ke V q = -1) ∧ (0 ≤ τ 10 i 13 ∧ τ 10 i 13 ≤ 4 * p) ∧ (∀ j : Nat, (j : Int) < τ 10 i 13 → ∃ q : Nat, q < p ∧ ke V q = -1 ∧ τ 58 i j = q ∧ 0 ≤ τ 59 i j ∧ τ 59 i j < ha V) ∧ (∀ q : Nat, q < p → ke V q = -1 → ∀ h, 0 ≤ h → h < ha V → ∃ j : Nat, (j : Int) < τ 10 i 13 ∧ τ 58 i j = q ∧ τ 59 i j = h)
def s2I (σ : St) (i : Nat) (V : Vy) (s : Nat) (τ : St) : Prop := FR (lP i) σ τ ∧ (0 ≤ τ 10 i 12 ∧ τ 10 i 12 ≤ s) ∧ (∀ j : Nat, (j : Int) < τ 10 i 12 → isSt V (τ 61 i j) ∧ τ 61 i j < s) ∧ (∀ j k : Nat, j < k → (k : Int) < τ 10 i 12 → τ 61 i j < τ 61 i k) ∧ (∀ t, isSt V t → t < s → ∃ j : Nat, (j : Int) < τ 10 i 12 ∧ τ 61 i j = t) ∧ τ 10 i 12 = (cnt (fun k => isSt V (k : Int)) s : Int)
theorem settle_2 {σ0 : St} (hV : VOK V) (hT : VT σ0 i V) (hP : VP σ0 i V) (h : ∀ τ, FR (lP i) σ0 τ → VL τ i V → Q (.inl none) τ) : ∀ n s : Nat, ((n + s : Nat) : Int) = cod V → ∀ τ, s2I σ0 i V s τ → WP mX9_settle 116 [vR 10 i, vI (s : Int)] [] τ Q := by
  have hc := hV.cod
  intro n
  induction n with
  | zero =>
    intro s hs τ hI
    obtain ⟨hF, h1, h2, h3, h4, h5⟩ := hI
    have e11 : τ 10 i 11 = cod V := by rw [hF _ _ _ (fun z => by unfold lP at z; omega)]; exact hP.2
    refine b_X9_settle_116 ⟨fun _ => h τ hF ⟨⟨h1.1, by omega⟩, fun j hj => (h2 j hj).1, h3, fun t ht => h4 t ht (by have := ht.1.2; omega), by rw [h5, show (cod V).toNat = s by omega]⟩, fun q => by omega⟩
  | succ n ih =>
    intro s hs τ hI
    obtain ⟨hF, h1, h2, h3, h4, h5⟩ := hI
    have e11 : τ 10 i 11 = cod V := by rw [hF _ _ _ (fun z => by unfold lP at z; omega)]; exact hP.2
    have hT' : VT τ i V := hT.fr hF (fun c j hc z => by unfold lP at z; omega)
    have hP' : VP τ i V := ⟨fun p hp => by rw [hF _ _ _ (fun z => by unfold lP at z; omega)]; exact hP.1 p hp, e11⟩
    refine b_X9_settle_116 ⟨fun q => by omega, fun _ => c_isState hV hT' hP' ?_⟩
    show WP mX9_settle 129 [vR 10 i, vI (s : Int)] [vI (b2 (isSt V (s : Int)))] τ Q
    refine b_X9_settle_129 ⟨fun hb => ⟨by unfold in32; omega, ih (s + 1) (by omega) τ ⟨hF, ⟨h1.1, by omega⟩, fun j hj => ⟨(h2 j hj).1, by have := (h2 j hj).2; omega⟩, h3, fun t ht hts => ?_, by rw [h5, cnt_f (P := fun k => isSt V (k : Int)) (n := s) (b2_eq hb)]⟩⟩, fun hb => ⟨⟨h1.1, by omega⟩, by unfold in32; omega, by unfold in32; omega, ih (s + 1) (by omega) _ ?_⟩⟩
    · by_cases e : t = s
      · rw [e] at ht; exact absurd ht (b2_eq hb)
      · exact h4 t ht (by omega)
    · have hst := b2_ne hb
      refine ⟨(hF.u ⟨rfl, by omega⟩).u ⟨rfl, by omega⟩, ?_, fun j hj => ?_, fun j k hjk hk => ?_, fun t ht hts => ?_, by rw [up_s, h5, cnt_t (P := fun k => isSt V (k : Int)) (n := s) hst]; push_cast; rfl⟩
      · simp [up]; omega
      · simp [up] at hj
        by_cases e : j = (τ 10 i 12).toNat
        · simp [up, e]; exact ⟨hst, by omega⟩
        · simp [up, e]; have := h2 j (by omega); exact ⟨this.1, by omega⟩
      · simp [up] at hk
        have hj' : j ≠ (τ 10 i 12).toNat := by omega
        by_cases e : k = (τ 10 i 12).toNat
        · simp [up, e, show j ≠ (τ 10 i 12).toNat by omega]; exact (h2 j (by omega)).2
        · simp [up, e, hj']; exact h3 j k hjk (by omega)
      · by_cases e : t = s
        · exact ⟨(τ 10 i 12).toNat, by simp [up]; omega, by simp [up, e]⟩
        · obtain ⟨j, h5, h6⟩ := h4 t ht (by omega)
          exact ⟨j, by simp [up]; omega, by simp [up, show j ≠ (τ 10 i 12).toNat by omega]; exact h6⟩
theorem c_settle (hV : VOK V) (hT : VT σ i V) (h : ∀ τ, FR (zP i) σ τ → VA τ i V → Q (.inl none) τ) : WP mX9_settle 0 [vR 10 i, vU] [] σ Q := by
  have hha := hV.ha
  have hpe := hV.pe
  refine b_X9_settle_0 ?_
  have key : ∀ n p : Nat, ((n + p : Nat) : Int) = pe V → ∀ τ, s1I σ i V p τ → WP mX9_settle 19 [vR 10 i, vI (p : Int)] [] τ Q := by
    intro n
    induction n with
    | zero =>
      intro p hp τ hI
      obtain ⟨hF, h1, h2, h3, h4, h5, h6⟩ := hI
      have hT' : VT τ i V := hT.fr hF (fun c j hc z => by unfold zP at z; omega)
      have h0pe := hT'.pe
      have ec : τ 60 i p = cod V := by rw [h1 p (by omega)]; unfold cod; rw [show (pe V).toNat = p by omega]
      refine b_X9_settle_19 ⟨fun _ => ⟨⟨h2.1, by omega⟩, ⟨by omega, by omega⟩, ?_⟩, fun q => by rw [hT'.pe] at q; omega⟩
      have hmin : min (τ 60 i ((τ 10 i 0).toNat)) 1024 = cod V := by
        rw [hT'.pe, show (pe V).toNat = p by omega, ec]
        have := hV.cod
        omega
      rw [hmin]
      have hF2 : FR (zP i) σ (up (up (up τ 10 i 10 (bcnt (τ 10 i 9))) 10 i 11 (cod V)) 10 i 12 0) := ((hF.u ⟨rfl, by omega⟩).u ⟨rfl, by omega⟩).u ⟨rfl, by omega⟩
      have hT2 : VT (up (up (up τ 10 i 10 (bcnt (τ 10 i 9))) 10 i 11 (cod V)) 10 i 12 0) i V := hT.fr hF2 (fun c j hc z => by unfold zP at z; omega)
      refine settle_2 hV hT2 (σ0 := up (up (up τ 10 i 10 (bcnt (τ 10 i 9))) 10 i 11 (cod V)) 10 i 12 0) ⟨fun q hq => by simp [up]; exact h1 q (by omega), by simp [up]⟩ (fun υ hυ hL => ?_) (cod V).toNat 0 (by have := cod_pos hV; omega) _ ⟨FR.rf, by simp [up], fun j hj => by simp [up] at hj; omega, fun j k _ hk => by simp [up] at hk; omega, fun t ht hts => by have := ht.1.1; omega, by simp [up, cnt]⟩
      have g : ∀ c j, ¬ lP i c i j → υ c i j = (up (up (up τ 10 i 10 (bcnt (τ 10 i 9))) 10 i 11 (cod V)) 10 i 12 0) c i j := fun c j q => hυ c i j q
      have g9 : υ 10 i 9 = τ 10 i 9 := by rw [g 10 9 (fun z => by unfold lP at z; omega)]; simp [up]
      have g10 : υ 10 i 10 = bcnt (τ 10 i 9) := by rw [g 10 10 (fun z => by unfold lP at z; omega)]; simp [up]
      have g11 : υ 10 i 11 = cod V := by rw [g 10 11 (fun z => by unfold lP at z; omega)]; simp [up]
      have g13 : υ 10 i 13 = τ 10 i 13 := by rw [g 10 13 (fun z => by unfold lP at z; omega)]; simp [up]
      have g60 : ∀ j, υ 60 i j = τ 60 i j := fun j => by rw [g 60 j (fun z => by unfold lP at z; omega)]; simp [up]
      have g58 : ∀ j, υ 58 i j = τ 58 i j := fun j => by rw [g 58 j (fun z => by unfold lP at z; omega)]; simp [up]
      have g59 : ∀ j, υ 59 i j = τ 59 i j := fun j => by rw [g 59 j (fun z => by unfold lP at z; omega)]; simp [up]
      refine h υ (hF2.tr (hυ.wk (fun c i' j z => by unfold lP at z; unfold zP; omega))) ⟨hT2.fr hυ (fun c j hc z => by unfold lP at z; omega), ⟨fun q hq => by rw [g60]; exact h1 q (by omega), g11⟩, ⟨by rw [g9]; omega, fun q => by rw [g9, h3 q]; constructor <;> (rintro ⟨a, b⟩; exact ⟨by omega, b⟩), by rw [g10, g9]⟩, hL, ⟨by rw [g13]; omega, fun j hj => ?_, fun q hq hk x hx1 hx2 => ?_⟩⟩
      · rw [g13] at hj
        obtain ⟨q, q1, q2, q3, q4, q5⟩ := h5 j hj
        exact ⟨q, by omega, q2, by rw [g58]; exact q3, by rw [g59]; exact q4, by rw [g59]; exact q5⟩
      · obtain ⟨j, j1, j2, j3⟩ := h6 q (by omega) hk x hx1 hx2
        exact ⟨j, by rw [g13]; exact j1, by rw [g58]; exact j2, by rw [g59]; exact j3⟩
    | succ n ih =>
      intro p hp τ hI
      obtain ⟨hF, h1, h2, h3, h4, h5, h6⟩ := hI
      have hT' : VT τ i V := hT.fr hF (fun c j hc z => by unfold zP at z; omega)
      have e60 := h1 p (by omega)
      have hpw : ha V ^ p * ha V = ha V ^ (p + 1) := (Int.pow_succ _ _).symm
      have hle : ha V ^ (p + 1) ≤ 1024 := by
        obtain ⟨H, hH, hb1, hb2⟩ := hN hV
        have h7 := hV.cod
        rw [cod_n hH] at h7
        have h8 : H ^ (p + 1) ≤ H ^ (pe V).toNat := Nat.pow_le_pow_right (by omega) (by omega)
        rw [hH]
        have h9 : ((H : Int) ^ (p + 1)) = ((H ^ (p + 1) : Nat) : Int) := by push_cast; rfl
        rw [h9]
        omega
      have hpos := pw_pos hV (p + 1)
      refine b_X9_settle_19 ?_
      simp only [Int.toNat_natCast, e60, hT'.ke p (by omega), hT'.ha, hT'.pe, hpw, show ((p : Int) + 1).toNat = p + 1 by omega, bor1 h2.1 (by omega) (show (0 : Int) ≤ p by omega) (by omega)]
      refine ⟨fun q => by omega, fun _ => ⟨by unfold in32; omega, ⟨by omega, by omega⟩, by unfold in32; omega, ⟨by omega, by omega⟩, ⟨by omega, by omega⟩, fun hk => ?_, fun hk => ?_⟩⟩
      · refine b_X9_settle_73 ⟨by unfold in32; omega, ih (p + 1) (by omega) _ ⟨hF.u ⟨rfl, by omega⟩, fun q hq => ?_, by simp [up]; omega, fun q => ?_, by simp [up]; omega, fun j hj => ?_, fun q hq hkq x hx1 hx2 => ?_⟩⟩
        · by_cases e : q = p + 1
          · simp [up, e]
          · simp [up, e]; exact h1 q (by omega)
        · simp [up]
          rw [h3 q]
          constructor
          · rintro ⟨a, b⟩; exact ⟨by omega, b⟩
          · rintro ⟨a, b⟩
            refine ⟨?_, b⟩
            apply Classical.byContradiction
            intro z
            rw [show q = p by omega] at b
            exact hk b
        · simp [up] at hj
          obtain ⟨q, q1, q2⟩ := h5 j hj
          refine ⟨q, by omega, ?_⟩
          simpa [up] using q2
        · have hqp : q < p := by
            apply Classical.byContradiction
            intro z
            rw [show q = p by omega] at hkq
            exact hk hkq
          obtain ⟨j, j1⟩ := h6 q hqp hkq x hx1 hx2
          exact ⟨j, by simpa [up] using j1⟩
      · have hF3 : FR (zP i) σ (up (up τ 60 i (p + 1) (ha V ^ (p + 1))) 10 i 9 (sadd (τ 10 i 9) p)) := (hF.u ⟨rfl, by omega⟩).u ⟨rfl, by omega⟩
        have hT3 : VT (up (up τ 60 i (p + 1) (ha V ^ (p + 1))) 10 i 9 (sadd (τ 10 i 9) p)) i V := hT.fr hF3 (fun c j hc z => by unfold zP at z; omega)
        have m13 : (up (up τ 60 i (p + 1) (ha V ^ (p + 1))) 10 i 9 (sadd (τ 10 i 9) p)) 10 i 13 = τ 10 i 13 := by simp [up]
        have m58 : ∀ j, (up (up τ 60 i (p + 1) (ha V ^ (p + 1))) 10 i 9 (sadd (τ 10 i 9) p)) 58 i j = τ 58 i j := fun j => by simp [up]
        have m59 : ∀ j, (up (up τ 60 i (p + 1) (ha V ^ (p + 1))) 10 i 9 (sadd (τ 10 i 9) p)) 59 i j = τ 59 i j := fun j => by simp [up]
        have m60 : ∀ q, q ≤ p + 1 → (up (up τ 60 i (p + 1) (ha V ^ (p + 1))) 10 i 9 (sadd (τ 10 i 9) p)) 60 i q = ha V ^ q := fun q hq => by
          by_cases e : q = p + 1
          · simp [up, e]
          · simp [up, e]; exact h1 q (by omega)
        have m9 : (up (up τ 60 i (p + 1) (ha V ^ (p + 1))) 10 i 9 (sadd (τ 10 i 9) p)) 10 i 9 = sadd (τ 10 i 9) p := by simp [up]
        generalize hυ : up (up τ 60 i (p + 1) (ha V ^ (p + 1))) 10 i 9 (sadd (τ 10 i 9) p) = υ at *
        refine c_addMoves hV hT3 (by omega) (by omega) (fun ω k1 k2 k3 k4 => ?_)
        show WP mX9_settle 73 [vR 10 i, vI (p : Int)] [] ω Q
        have sb := sadd_bd (q := p) h2.2 (by omega)
        have w9 : ω 10 i 9 = sadd (τ 10 i 9) p := by rw [k1 _ _ _ (fun z => by unfold aP at z; omega)]; exact m9
        refine b_X9_settle_73 ⟨by unfold in32; omega, ih (p + 1) (by omega) _ ⟨hF3.tr (k1.wk (fun c i' j z => by unfold aP at z; unfold zP; omega)), fun q hq => ?_, by rw [w9]; exact sb, fun q => ?_, by omega, fun j hj => ?_, fun q hq hkq x hx1 hx2 => ?_⟩⟩
        · rw [k1 _ _ _ (fun z => by unfold aP at z; omega)]; exact m60 q hq
        · rw [w9, sadd_bit, h3 q]
          constructor
          · rintro (⟨a, b⟩ | a)
            · exact ⟨by omega, b⟩
            · rw [a]; exact ⟨by omega, hk⟩
          · rintro ⟨a, b⟩
            by_cases e : q = p
            · exact Or.inr e
            · exact Or.inl ⟨by omega, b⟩
        · by_cases hj2 : (j : Int) < τ 10 i 13
          · obtain ⟨q, q1, q2, q3, q4, q5⟩ := h5 j hj2
            have := k3 j (by omega)
            exact ⟨q, by omega, q2, by rw [this.1, m58]; exact q3, by rw [this.2, m59]; exact q4, by rw [this.2, m59]; exact q5⟩
          · have := k4 (j - (υ 10 i 13).toNat) (by omega)
            rw [show (υ 10 i 13).toNat + (j - (υ 10 i 13).toNat) = j by omega] at this
            exact ⟨p, by omega, hk, this.1, by omega, by omega⟩
        · by_cases e : q = p
          · have := k4 x.toNat (by omega)
            exact ⟨(υ 10 i 13).toNat + x.toNat, by omega, by rw [e]; exact this.1, by rw [this.2]; omega⟩
          · obtain ⟨j, j1, j2, j3⟩ := h6 q (by omega) hkq x hx1 hx2
            have := k3 j (by omega)
            exact ⟨j, by omega, by rw [this.1, m58]; exact j2, by rw [this.2, m59]; exact j3⟩
  refine key (pe V).toNat 0 (by omega) _ ⟨((FR.rf.u ⟨rfl, by omega⟩).u ⟨rfl, by omega⟩).u ⟨rfl, by omega⟩, fun q hq => ?_, by simp [up], fun q => ?_, by simp [up], fun j hj => by simp [up] at hj; omega, fun q hq => by omega⟩
  · rw [show q = 0 by omega]; simp [up]
  · simpa [up] using tbit_0 q
end Settle
