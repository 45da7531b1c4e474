/-! ===== the model's valley, its ANSWERS ===== -/
/-- the model holds the valley V (with what is given besides) -/
def MT (σ : St) (V : Vy) : Prop := σ 14 0 10 = pe V ∧ σ 14 0 11 = ha V ∧ σ 14 0 17 = sy V ∧ (∀ x j : Nat, (x : Int) < ha V → (j : Int) < ha V → σ 67 0 (4 * x + j) + (if (x : Int) = σ 14 0 35 then σ 14 0 36 else 0) = ge V (4 * x + j) ∧ 0 ≤ σ 67 0 (4 * x + j) ∧ σ 67 0 (4 * x + j) ≤ 99) ∧ (∀ j, j < 4 → σ 73 0 j = sl V j) ∧ (∀ j, j < 10 → σ 69 0 j = me V j) ∧ (∀ j, j < 10 → σ 71 0 j = ke V j) ∧ (∀ p : Nat, (p : Int) ≤ pe V → σ 77 0 p = ha V ^ p) ∧ (0 ≤ σ 14 0 36 ∧ σ 14 0 36 ≤ 99)
section Mans
variable {σ : St} {Q : Res → St → Prop} {V : Vy} {s : Int}
theorem MT.pe (h : MT σ V) : σ 14 0 10 = pe V := h.1
theorem MT.ha (h : MT σ V) : σ 14 0 11 = ha V := h.2.1
theorem MT.sy (h : MT σ V) : σ 14 0 17 = sy V := h.2.2.1
theorem MT.ge (h : MT σ V) : ∀ x j : Nat, (x : Int) < Jvm.Pilot.CCustomValleyLaw_law_r4824_d123a9.ha V → (j : Int) < Jvm.Pilot.CCustomValleyLaw_law_r4824_d123a9.ha V → σ 67 0 (4 * x + j) + (if (x : Int) = σ 14 0 35 then σ 14 0 36 else 0) = ge V (4 * x + j) ∧ 0 ≤ σ 67 0 (4 * x + j) ∧ σ 67 0 (4 * x + j) ≤ 99 := h.2.2.2.1
theorem MT.sl (h : MT σ V) : ∀ j, j < 4 → σ 73 0 j = sl V j := h.2.2.2.2.1
theorem MT.me (h : MT σ V) : ∀ j, j < 10 → σ 69 0 j = me V j := h.2.2.2.2.2.1
theorem MT.ke (h : MT σ V) : ∀ j, j < 10 → σ 71 0 j = ke V j := h.2.2.2.2.2.2.1
theorem MT.pw (h : MT σ V) : ∀ p : Nat, (p : Int) ≤ Jvm.Pilot.CCustomValleyLaw_law_r4824_d123a9.pe V → σ 77 0 p = Jvm.Pilot.CCustomValleyLaw_law_r4824_d123a9.ha V ^ p := h.2.2.2.2.2.2.2.1
theorem MT.gb (h : MT σ V) : 0 ≤ σ 14 0 36 ∧ σ 14 0 36 ≤ 99 := h.2.2.2.2.2.2.2.2
theorem MT.all (hT : MT σ V) (hV : VOK V) : σ 77 0 ((σ 14 0 10).toNat) = cod V := by
  have := hV.pe
  rw [hT.pe, hT.pw _ (by omega)]
  rfl
theorem MT.fr {P : Nat → Nat → Nat → Prop} {τ : St} (h : MT σ V) (k : FR P σ τ) (hP : ∀ c j, (c = 14 ∧ (j = 10 ∨ j = 11 ∨ j = 17 ∨ j = 35 ∨ j = 36)) ∨ c = 67 ∨ c = 69 ∨ c = 71 ∨ c = 73 ∨ c = 77 → ¬ P c 0 j) : MT τ V := by
  have g : ∀ c j, ((c = 14 ∧ (j = 10 ∨ j = 11 ∨ j = 17 ∨ j = 35 ∨ j = 36)) ∨ c = 67 ∨ c = 69 ∨ c = 71 ∨ c = 73 ∨ c = 77) → τ c 0 j = σ c 0 j := fun c j q => k c 0 j (hP c j q)
  refine ⟨by rw [g 14 10 (by omega)]; exact h.pe, by rw [g 14 11 (by omega)]; exact h.ha, by rw [g 14 17 (by omega)]; exact h.sy, fun x j hx hj => by rw [g 67 _ (by omega), g 14 35 (by omega), g 14 36 (by omega)]; exact h.ge x j hx hj, fun j hj => by rw [g 73 _ (by omega)]; exact h.sl j hj, fun j hj => by rw [g 69 _ (by omega)]; exact h.me j hj, fun j hj => by rw [g 71 _ (by omega)]; exact h.ke j hj, fun p hp => by rw [g 77 _ (by omega)]; exact h.pw p hp, by rw [g 14 36 (by omega)]; exact h.gb⟩
theorem d_isState {x1 : Int} (hV : VOK V) (hT : MT σ V) (h : Q (.inl (some (vI (b2 (isSt V x1))))) σ) : WP mX13_isState 0 [vR 14 0, vI x1, vU] [] σ Q := by
  have hpe := hV.pe
  have hha := hV.ha
  have hc := hV.cod
  have hc0 := cod_pos hV
  refine b_X13_isState_0 ?_
  simp only [hT.all hV]
  rw [hT.pe]
  refine ⟨⟨by omega, by omega⟩, by unfold in64; omega, fun h1 => ?_, fun h1 => ?_⟩
  · obtain ⟨h0, h1⟩ := h1
    have key : ∀ n p : Nat, ((n + p : Nat) : Int) = pe V → (∀ q : Nat, q < p → ke V q ≠ -1 → hab V x1 q = ke V q) → WP mX13_isState 20 [vR 14 0, vI x1, vI (p : Int)] [] σ Q := by
      intro n
      induction n with
      | zero =>
        intro p hp hq
        refine b_X13_isState_20 ⟨fun _ => ?_, fun q => by rw [hT.pe] at q; omega⟩
        rw [b2_t ⟨⟨h0, by omega⟩, fun q hq1 hq2 => hq q (by omega) hq2⟩] at h; exact h
      | succ n ih =>
        intro p hp hq
        have e60 := hT.pw p (by omega)
        have e57 := hT.ke p (by omega)
        have hpp := pw_pos hV p
        refine b_X13_isState_20 ?_
        simp only [Int.toNat_natCast, e60, e57, hT.pe, hT.ha]
        refine ⟨fun q => by omega, fun _ => ⟨⟨by omega, by omega⟩, fun hk => ⟨by unfold in32; omega, ih (p + 1) (by omega) (fun q hq1 hq2 => ?_)⟩, fun hk => ⟨⟨by omega, by omega, h0, hpp, Int.ediv_nonneg h0 (Int.le_of_lt hpp), by omega⟩, ⟨by omega, by omega⟩, fun he => ⟨by unfold in32; omega, ih (p + 1) (by omega) (fun q hq1 hq2 => ?_)⟩, fun he => ?_⟩⟩⟩
        · by_cases e : q = p
          · subst e; exact absurd hk hq2
          · exact hq q (by omega) hq2
        · by_cases e : q = p
          · subst e; exact he
          · exact hq q (by omega) hq2
        · rw [b2_f (fun q => he (q.2 p (by omega) hk))] at h; exact h
    exact key (pe V).toNat 0 (by omega) (fun q hq => by omega)
  · rw [b2_f (fun q => h1 ⟨q.1.1, by have := q.1.2; omega⟩)] at h; exact h
theorem d_sumOf {x : Int} {p : Nat} (hV : VOK V) (hT : MT σ V) (hs : 0 ≤ s) (hp : (p : Int) < pe V) (hx : 0 ≤ x) (hx2 : x < ha V) (h : Q (.inl (some (vI (wor V s p x)))) σ) : WP mX13_sumOf 0 [vR 14 0, vI s, vI (p : Int), vI x, vU, vU] [] σ Q := by
  have hpe := hV.pe
  have hha := hV.ha
  have hb := hab_bd hV s
  have hpw := pw_pos hV
  refine b_X13_sumOf_0 ?_
  have key : ∀ n q : Nat, ((n + q : Nat) : Int) = pe V → WP mX13_sumOf 6 [vR 14 0, vI s, vI (p : Int), vI x, vI (sm (fun q => if tbit (me V p) q then ge V (4 * x + hab V s q).toNat else 0) q), vI (q : Int)] [] σ Q := by
    intro n
    induction n with
    | zero =>
      intro q hq
      refine b_X13_sumOf_6 ⟨fun _ => ?_, fun z => by rw [hT.pe] at z; omega⟩
      unfold wor at h
      rw [show (pe V).toNat = q by omega] at h
      exact h
    | succ n ih =>
      intro q hq
      have hm := hV.me p (by omega)
      have hbq := hb q
      have hg := hV.ge (4 * x + hab V s q).toNat (by omega)
      have hbd := sm_bd (f := fun q => if tbit (me V p) q then ge V (4 * x + hab V s q).toNat else 0) (b := 198) (by omega) (n := q) (fun k hk => by
        have := hV.ge (4 * x + hab V s k).toNat (by have := hb k; omega)
        by_cases ht : tbit (me V p) k = true
        · simp only [ht, if_true]; exact this
        · simp [ht])
      obtain ⟨g1, g2, g3⟩ := hT.ge x.toNat (hab V s q).toNat (by omega) (by omega)
      have e1 : 4 * x.toNat + (hab V s q).toNat = (4 * x + hab V s q).toNat := by omega
      rw [e1] at g1 g2 g3
      rw [show ((x.toNat : Nat) : Int) = x by omega] at g1
      have hgb := hT.gb
      have hi := ih (q + 1) (by omega)
      rw [sm] at hi
      refine b_X13_sumOf_6 ?_
      simp only [Int.toNat_natCast, hT.pw q (by omega), hT.pe, hT.ha, hT.me p (by omega), band_eq1 hm.1 hm.2 (show (0 : Int) ≤ q by omega) (by omega), ne_eq]
      refine ⟨fun z => by omega, fun _ => ⟨⟨by omega, by omega⟩, fun ht => ⟨by unfold in32; omega, ?_⟩, fun ht => ⟨by unfold in32; omega, ⟨by omega, by omega, hs, hpw q, Int.ediv_nonneg hs (Int.le_of_lt (hpw q)), by omega⟩, ?_⟩⟩⟩
      · simp only [ht] at hi
        simpa using hi
      · simp only [ht, if_true] at hi
        show in32 (4 * x + hab V s q) ∧ (0 ≤ 4 * x + hab V s q ∧ 4 * x + hab V s q < 16) ∧ ((¬ x = σ 14 0 35 → in32 (σ 67 0 (4 * x + hab V s q).toNat + 0) ∧ in32 (_ + (σ 67 0 (4 * x + hab V s q).toNat + 0)) ∧ in32 ((q : Int) + 1) ∧ WP mX13_sumOf 6 [vR 14 0, vI s, vI (p : Int), vI x, vI (_ + (σ 67 0 (4 * x + hab V s q).toNat + 0)), vI ((q : Int) + 1)] [] σ Q) ∧ (x = σ 14 0 35 → in32 (σ 67 0 (4 * x + hab V s q).toNat + σ 14 0 36) ∧ in32 (_ + (σ 67 0 (4 * x + hab V s q).toNat + σ 14 0 36)) ∧ in32 ((q : Int) + 1) ∧ WP mX13_sumOf 6 [vR 14 0, vI s, vI (p : Int), vI x, vI (_ + (σ 67 0 (4 * x + hab V s q).toNat + σ 14 0 36)), vI ((q : Int) + 1)] [] σ Q))
        refine ⟨by unfold in32; omega, ⟨by omega, by omega⟩, fun hc => ?_, fun hc => ?_⟩
        · rw [if_neg hc] at g1
          rw [g1]
          exact ⟨by unfold in32; omega, by unfold in32; omega, by unfold in32; omega, hi⟩
        · rw [if_pos hc] at g1
          rw [g1]
          exact ⟨by unfold in32; omega, by unfold in32; omega, by unfold in32; omega, hi⟩
  exact key (pe V).toNat 0 (by omega)
theorem d_likeOf {x : Int} {p : Nat} (hV : VOK V) (hT : MT σ V) (hs : 0 ≤ s) (hp : (p : Int) < pe V) (h : Q (.inl (some (vI (lik V s p x)))) σ) : WP mX13_likeOf 0 [vR 14 0, vI s, vI (p : Int), vI x, vU, vU] [] σ Q := by
  have hpe := hV.pe
  have hha := hV.ha
  have hpw := pw_pos hV
  refine b_X13_likeOf_0 ?_
  have key : ∀ n q : Nat, ((n + q : Nat) : Int) = pe V → WP mX13_likeOf 6 [vR 14 0, vI s, vI (p : Int), vI x, vI (sm (fun q => if tbit (me V p) q = true ∧ hab V s q = x then 1 else 0) q), vI (q : Int)] [] σ Q := by
    intro n
    induction n with
    | zero =>
      intro q hq
      refine b_X13_likeOf_6 ⟨fun _ => ?_, fun z => by rw [hT.pe] at z; omega⟩
      unfold lik at h
      rw [show (pe V).toNat = q by omega] at h
      exact h
    | succ n ih =>
      intro q hq
      have hm := hV.me p (by omega)
      have hbd := sm_bd (f := fun q => if tbit (me V p) q = true ∧ hab V s q = x then (1 : Int) else 0) (b := 1) (by omega) (n := q) (fun k hk => by
        show 0 ≤ (if tbit (me V p) k = true ∧ hab V s k = x then (1 : Int) else 0) ∧ (if tbit (me V p) k = true ∧ hab V s k = x then (1 : Int) else 0) ≤ 1
        split <;> omega)
      have hi := ih (q + 1) (by omega)
      rw [sm] at hi
      refine b_X13_likeOf_6 ?_
      simp only [Int.toNat_natCast, hT.pw q (by omega), hT.pe, hT.ha, hT.me p (by omega), band_eq1 hm.1 hm.2 (show (0 : Int) ≤ q by omega) (by omega), ne_eq]
      refine ⟨fun z => by omega, fun _ => ⟨⟨by omega, by omega⟩, fun ht => ⟨by unfold in32; omega, by unfold in32; omega, ?_⟩, fun ht => ⟨⟨by omega, by omega, hs, hpw q, Int.ediv_nonneg hs (Int.le_of_lt (hpw q)), by omega⟩, fun he => ⟨by unfold in32; omega, by unfold in32; omega, ?_⟩, fun he => ⟨by unfold in32; omega, by unfold in32; omega, ?_⟩⟩⟩⟩
      · rw [if_neg (fun z => ht z.1)] at hi; exact hi
      · rw [if_neg (fun z => he z.2)] at hi; exact hi
      · rw [if_pos ⟨ht, he⟩] at hi; exact hi
  exact key (pe V).toNat 0 (by omega)
theorem d_copied {p : Nat} (hV : VOK V) (hT : MT σ V) (hs : 0 ≤ s) (hp : (p : Int) < pe V) (h : Q (.inl (some (vI (cp V s p (pe V).toNat).2))) σ) : WP mX13_copied 0 [vR 14 0, vI s, vI (p : Int), vU, vU, vU, vU] [] σ Q := by
  have hpe := hV.pe
  have hha := hV.ha
  have hpw := pw_pos hV
  have hb := hab_bd hV s
  refine b_X13_copied_0 ?_
  have key : ∀ n q : Nat, ((n + q : Nat) : Int) = pe V → WP mX13_copied 8 [vR 14 0, vI s, vI (p : Int), vI (cp V s p q).1, vI (cp V s p q).2, vI (q : Int), vU] [] σ Q := by
    intro n
    induction n with
    | zero =>
      intro q hq
      refine b_X13_copied_8 ⟨fun _ => ?_, fun z => by rw [hT.pe] at z; omega⟩
      rw [show (pe V).toNat = q by omega] at h
      exact h
    | succ n ih =>
      intro q hq
      have hm := hV.me p (by omega)
      have hbq := hb q
      have hM := (cp_mx hV s p q).2.2.1
      have hi := ih (q + 1) (by omega)
      rw [cp] at hi
      have e60 := hT.pw q (by omega)
      have sides : 0 ≤ (q : Int) ∧ (q : Int) < 11 ∧ 0 ≤ s ∧ 0 < ha V ^ q ∧ 0 ≤ s / ha V ^ q ∧ 0 < ha V := ⟨by omega, by omega, hs, hpw q, Int.ediv_nonneg hs (Int.le_of_lt (hpw q)), by omega⟩
      have tail : ¬ (q ≠ p ∧ ¬ tbit (me V p) q = true) → WP mX13_copied 54 [vR 14 0, vI s, vI (p : Int), vI (cp V s p q).1, vI (cp V s p q).2, vI (q : Int), vU] [vI (wor V s q (hab V s q))] σ Q := by
        intro hn
        rw [if_neg hn] at hi
        refine b_X13_copied_54 ⟨fun hc => b_X13_copied_65 ?_, fun hc => b_X13_copied_65 ?_⟩
        · simp only [Int.toNat_natCast, e60, hT.ha]
          rw [if_neg (by omega)] at hi
          refine ⟨fun hd => ⟨by unfold in32; omega, ?_⟩, fun hd => ⟨sides, by unfold in32; omega, ?_⟩⟩
          · rw [if_neg (by omega)] at hi
            rw [show max (cp V s p q).1 (wor V s q (hab V s q)) = (cp V s p q).1 by omega]; exact hi
          · rw [if_pos (by omega)] at hi
            rw [show max (cp V s p q).1 (wor V s q (hab V s q)) = (cp V s p q).1 by omega]
            show WP mX13_copied 8 [vR 14 0, vI s, vI (p : Int), vI (cp V s p q).1, vI (bor (cp V s p q).2 (shl 1 (hab V s q))), vI ((q : Int) + 1), vU] [] σ Q
            rw [bor1 hM.1 (by omega) hbq.1 (by omega)]
            exact hi
        · simp only [Int.toNat_natCast, e60, hT.ha]
          rw [if_pos (by omega)] at hi
          refine ⟨fun hd => by omega, fun hd => ⟨sides, by unfold in32; omega, ?_⟩⟩
          rw [show max (cp V s p q).1 (wor V s q (hab V s q)) = wor V s q (hab V s q) by omega]
          show WP mX13_copied 8 [vR 14 0, vI s, vI (p : Int), vI (wor V s q (hab V s q)), vI (bor 0 (shl 1 (hab V s q))), vI ((q : Int) + 1), vU] [] σ Q
          rw [bor1 (show (0 : Int) ≤ 0 by omega) (by omega) hbq.1 (by omega)]
          exact hi
      refine b_X13_copied_8 ?_
      simp only [Int.toNat_natCast, e60, hT.pe, hT.ha, hT.me p (by omega), band_ne hm.1 hm.2 (show (0 : Int) ≤ q by omega) (by omega), band_eq0 hm.1 hm.2 (show (0 : Int) ≤ q by omega) (by omega)]
      refine ⟨fun z => by omega, fun _ => ⟨fun he => ⟨sides, ?_⟩, fun he => ⟨⟨by omega, by omega⟩, fun ht => ⟨sides, ?_⟩, fun ht => ⟨by unfold in32; omega, ?_⟩⟩⟩⟩
      · exact d_sumOf hV hT hs (by omega) hbq.1 hbq.2 (tail (fun z => z.1 (by omega)))
      · exact d_sumOf hV hT hs (by omega) hbq.1 hbq.2 (tail (fun z => z.2 ht))
      · rw [if_pos ⟨by omega, ht⟩] at hi; exact hi
  exact key (pe V).toNat 0 (by omega)
end Mans
