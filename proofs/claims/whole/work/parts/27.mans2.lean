/-! ===== the model's answersBy, answersOf, findAnswers ===== -/
def MRP (σ : St) (V : Vy) : Prop := (∀ s : Nat, (s : Int) < cod V → σ 88 0 s = b2 (isSt V (s : Int))) ∧ ∀ s, isSt V s → ∀ p : Nat, (p : Int) < pe V → σ 78 0 (10 * s + p).toNat = ans V s p
def fP (c i _j : Nat) : Prop := i = 0 ∧ (c = 78 ∨ c = 88)
section Mans2
variable {σ : St} {Q : Res → St → Prop} {V : Vy} {s : Int}
theorem d_answersBy {p : Nat} (hV : VOK V) (hT : MT σ V) (hs : 0 ≤ s) (hp : (p : Int) < pe V) (h : Q (.inl (some (vI (aset V s p)))) σ) : WP mX13_answersBy 0 [vR 14 0, vI s, vI (p : Int), vI (an V), vU, vU, vU, vU] [] σ Q := by
  have hha := hV.ha
  refine b_X13_answersBy_0 ⟨fun h2 => ?_, fun h2 => d_copied hV hT hs hp (b_X13_answersBy_11 ?_)⟩
  · have key : ∀ n k : Nat, ((n + k : Nat) : Int) = ha V → WP mX13_answersBy 21 [vR 14 0, vI s, vI (p : Int), vI (an V), vI (gr (fun h => if an V = 0 then wor V s p h else lik V s p h) k).1, vI (gr (fun h => if an V = 0 then wor V s p h else lik V s p h) k).2, vI (k : Int), vU] [] σ Q := by
      intro n
      induction n with
      | zero =>
        intro k hk
        refine b_X13_answersBy_21 ⟨fun _ => ?_, fun z => by rw [hT.ha] at z; omega⟩
        unfold aset at h
        rw [if_neg h2, show (ha V).toNat = k by omega] at h
        exact h
      | succ n ih =>
        intro k hk
        have hgb := gr_bd (fun h => if an V = 0 then wor V s p h else lik V s p h) k
        have h16 : (gr (fun h => if an V = 0 then wor V s p h else lik V s p h) k).2.toNat < 2 ^ 4 := Nat.lt_of_lt_of_le hgb.2.2 (Nat.pow_le_pow_right (by omega) (by omega))
        have hi := ih (k + 1) (by omega)
        rw [gr] at hi
        have tail : WP mX13_answersBy 53 [vR 14 0, vI s, vI (p : Int), vI (an V), vI (gr (fun h => if an V = 0 then wor V s p h else lik V s p h) k).1, vI (gr (fun h => if an V = 0 then wor V s p h else lik V s p h) k).2, vI (k : Int), vU] [vI (if an V = 0 then wor V s p k else lik V s p k)] σ Q := by
          refine b_X13_answersBy_53 ⟨fun hc => b_X13_answersBy_65 ⟨fun hd => ⟨by unfold in32; omega, ?_⟩, fun hd => ⟨by unfold in32; omega, ?_⟩⟩, fun hc => b_X13_answersBy_65 ⟨fun hd => by omega, fun hd => ⟨by unfold in32; omega, ?_⟩⟩⟩
          · rw [if_neg (by omega), if_neg (by omega)] at hi
            rw [show max (gr (fun h => if an V = 0 then wor V s p h else lik V s p h) k).1 (if an V = 0 then wor V s p k else lik V s p k) = (gr (fun h => if an V = 0 then wor V s p h else lik V s p h) k).1 by omega]
            exact hi
          · rw [if_neg (by omega), if_pos (by omega)] at hi
            rw [show max (gr (fun h => if an V = 0 then wor V s p h else lik V s p h) k).1 (if an V = 0 then wor V s p k else lik V s p k) = (gr (fun h => if an V = 0 then wor V s p h else lik V s p h) k).1 by omega, bor1 hgb.2.1 (by omega) (show (0 : Int) ≤ k by omega) (by omega), Int.toNat_natCast]
            exact hi
          · rw [if_pos (by omega)] at hi
            rw [show max (gr (fun h => if an V = 0 then wor V s p h else lik V s p h) k).1 (if an V = 0 then wor V s p k else lik V s p k) = (if an V = 0 then wor V s p k else lik V s p k) by omega, bor1 (show (0 : Int) ≤ 0 by omega) (by omega) (show (0 : Int) ≤ k by omega) (by omega), Int.toNat_natCast]
            exact hi
        refine b_X13_answersBy_21 ?_
        rw [hT.ha]
        refine ⟨fun z => by omega, fun _ => ⟨fun hz => d_likeOf hV hT hs hp ?_, fun hz => d_sumOf hV hT hs hp (by omega) (by omega) (b_X13_answersBy_42 ?_)⟩⟩
        · rw [if_neg hz] at tail; exact tail
        · rw [if_pos hz] at tail; exact tail
    exact key (ha V).toNat 0 (by omega)
  · unfold aset at h
    rw [if_pos h2] at h
    exact h
theorem d_answersOf {p : Nat} (hV : VOK V) (hT : MT σ V) (hs : 0 ≤ s) (hp : (p : Int) < pe V) (h : Q (.inl (some (vI (ans V s p)))) σ) : WP mX13_answersOf 0 [vR 14 0, vI s, vI (p : Int), vI (an V), vU, vU] [] σ Q := by
  have hpe := hV.pe
  have hha := hV.ha
  have hb := hab_bd hV s p
  have ab := aset_bd hV s p
  have hpw := pw_pos hV p
  refine b_X13_answersOf_0 ?_
  simp only [Int.toNat_natCast, hT.ke p (by omega)]
  refine ⟨⟨by omega, by omega⟩, fun hk => d_answersBy hV hT hs hp ?_, fun hk => ⟨⟨by omega, by omega⟩, ?_⟩⟩
  · rw [ans_of hV hk] at h
    show WP mX13_answersOf 26 [vR 14 0, vI s, vI (p : Int), vU, vU, vU] [vI (aset V s p)] σ Q
    refine b_X13_answersOf_26 ?_
    simp only [Int.toNat_natCast, hT.pw p (by omega), hT.ha, hT.sy]
    refine ⟨⟨by omega, by omega, hs, hpw, Int.ediv_nonneg hs (Int.le_of_lt hpw), by omega⟩, fun h0 => ?_, fun h0 => ?_⟩
    · rw [if_neg (fun q => q.1 h0)] at h; exact h
    · show (band (aset V s p) (shl 1 (hab V s p)) = 0 → _) ∧ (band (aset V s p) (shl 1 (hab V s p)) ≠ 0 → Q (.inl (some (vI (shl 1 (hab V s p))))) σ)
      rw [shl1 hb.1 (show hab V s p < 12 by omega), band_pw ab.1 ab.2 (show (hab V s p).toNat < 4 by omega), ne_eq, band_pw ab.1 ab.2 (show (hab V s p).toNat < 4 by omega)]
      refine ⟨fun ht => ?_, fun ht => ?_⟩
      · rw [if_neg (fun q => ht q.2)] at h; exact h
      · rw [if_pos ⟨h0, Classical.byContradiction ht⟩] at h; exact h
  · have hk2 := (hV.ke p hp).resolve_left hk
    unfold ans at h
    rw [if_pos hk] at h
    rw [shl1 hk2.1 (by omega)]
    exact h
def faI (σ : St) (V : Vy) (n p : Nat) (τ : St) : Prop := FR fP σ τ ∧ (∀ s : Nat, s < n → τ 88 0 s = b2 (isSt V (s : Int))) ∧ (∀ s q : Nat, (s < n ∨ (s = n ∧ q < p)) → isSt V (s : Int) → (q : Int) < pe V → τ 78 0 (10 * s + q) = ans V (s : Int) q)
theorem d_findAnswers (hV : VOK V) (hT : MT σ V) (h : ∀ τ, FR fP σ τ → MRP τ V → Q (.inl none) τ) : WP mX13_findAnswers 0 [vR 14 0, vI (an V), vU, vU] [] σ Q := by
  have hpe := hV.pe
  have hc := hV.cod
  have hc0 := cod_pos hV
  have hTf : ∀ τ, FR fP σ τ → MT τ V := fun τ hF => hT.fr hF (fun c j hc z => by unfold fP at z; omega)
  refine b_X13_findAnswers_0 ?_
  have key : ∀ n s : Nat, ((n + s : Nat) : Int) = cod V → ∀ τ, faI σ V s 0 τ → WP mX13_findAnswers 2 [vR 14 0, vI (an V), vI (s : Int), vU] [] τ Q := by
    intro n
    induction n with
    | zero =>
      intro s hs τ hI
      have hT' := hTf τ hI.1
      refine b_X13_findAnswers_2 ?_
      rw [hT'.all hV, hT'.pe]
      refine ⟨⟨by omega, by omega⟩, fun _ => h τ hI.1 ⟨fun t ht => hI.2.1 t (by omega), fun t ht p hp => ?_⟩, fun z => by omega⟩
      have hb := ht.1
      unfold inC at hb
      have := hI.2.2 t.toNat p (Or.inl (by omega)) (by rw [show ((t.toNat : Nat) : Int) = t by omega]; exact ht) hp
      rw [show ((t.toNat : Nat) : Int) = t by omega] at this
      rw [← this]
      congr 1
      omega
    | succ n ih =>
      intro s hs τ hI
      have hT' := hTf τ hI.1
      refine b_X13_findAnswers_2 ?_
      rw [hT'.all hV, hT'.pe]
      refine ⟨⟨by omega, by omega⟩, fun z => by omega, fun _ => d_isState hV hT' ?_⟩
      show WP mX13_findAnswers 20 [vR 14 0, vI (an V), vI (s : Int), vU] [vI (b2 (isSt V (s : Int))), vI (s : Int), vR 88 0] τ Q
      refine b_X13_findAnswers_20 ⟨⟨by omega, by omega, b2_01 _⟩, ?_⟩
      rw [Int.toNat_natCast]
      have nxt : ∀ υ, faI σ V s (pe V).toNat υ → υ 88 0 s = b2 (isSt V (s : Int)) → WP mX13_findAnswers 2 [vR 14 0, vI (an V), vI ((s : Int) + 1), vU] [] υ Q := fun υ hI h88 => ih (s + 1) (by omega) υ ⟨hI.1, fun t ht => by
        by_cases e : t = s
        · rw [e]; exact h88
        · exact hI.2.1 t (by omega), fun t q hq hst hqp => hI.2.2 t q (by omega) hst hqp⟩
      have inner : ∀ m p : Nat, ((m + p : Nat) : Int) = pe V → ∀ υ, faI σ V s p υ → υ 88 0 s = b2 (isSt V (s : Int)) → WP mX13_findAnswers 23 [vR 14 0, vI (an V), vI (s : Int), vI (p : Int)] [] υ Q := by
        intro m
        induction m with
        | zero =>
          intro p hp υ hI h88
          have hT2 := hTf υ hI.1
          refine b_X13_findAnswers_23 ⟨fun _ => ⟨by unfold in32; omega, nxt υ (by rw [show (pe V).toNat = p by omega]; exact hI) h88⟩, fun z => by rw [hT2.pe] at z; omega⟩
        | succ m ihm =>
          intro p hp υ hI h88
          have hT2 := hTf υ hI.1
          refine b_X13_findAnswers_23 ?_
          simp only [Int.toNat_natCast, hT2.pe, h88]
          refine ⟨fun z => by omega, fun _ => ⟨⟨by omega, by omega⟩, fun hb => ⟨by unfold in32; omega, nxt υ ⟨hI.1, hI.2.1, fun t q hq hst hqp => ?_⟩ h88⟩, fun hb => ⟨by unfold in32; omega, by unfold in32; omega, d_answersOf hV hT2 (by omega) (by omega) ?_⟩⟩⟩
          · rcases hq with hq | hq
            · exact hI.2.2 t q (Or.inl hq) hst hqp
            · rw [hq.1] at hst; exact absurd hst (b2_eq hb)
          · have hst := b2_ne hb
            show WP mX13_findAnswers 57 [vR 14 0, vI (an V), vI (s : Int), vI (p : Int)] [vI (ans V (s : Int) p), vI (10 * (s : Int) + (p : Int)), vR 78 0] υ Q
            have ab := ans_bd hV (s : Int) (p := p) (by omega)
            refine b_X13_findAnswers_57 ⟨⟨by omega, by omega⟩, by unfold in32; omega, ?_⟩
            rw [i2b_id ab.1 (by omega), i2b_id ab.1 (by omega), show (10 * (s : Int) + (p : Int)).toNat = 10 * s + p by omega]
            refine ihm (p + 1) (by omega) _ ⟨hI.1.u ⟨rfl, by omega⟩, fun t ht => by rw [up_c (by omega)]; exact hI.2.1 t ht, fun t q hq hst' hqp => ?_⟩ (by rw [up_c (by omega)]; exact h88)
            by_cases e : t = s ∧ q = p
            · rw [e.1, e.2, up_s]
            · rw [up_j (by omega)]; exact hI.2.2 t q (by omega) hst' hqp
      refine inner (pe V).toNat 0 (by omega) _ ⟨hI.1.u ⟨rfl, by omega⟩, fun t ht => by rw [up_j (by omega)]; exact hI.2.1 t ht, fun t q hq hst hqp => by rw [up_c (by omega)]; exact hI.2.2 t q hq hst hqp⟩ (by rw [up_s])
  exact key (cod V).toNat 0 (by omega) σ ⟨FR.rf, fun t ht => by omega, fun t q hq => by omega⟩
end Mans2
