/-! ===== the model's scan; words ===== -/
theorem b255w_all : ∀ m : Fin 256, band ((m.val : Nat) : Int) 255 = ((m.val : Nat) : Int) ∧ band (((m.val : Nat) : Int) - 256) 255 = ((m.val : Nat) : Int) := by decide +kernel
theorem b255w {x : Int} (h0 : -128 ≤ x) (h1 : x ≤ 127) : band x 255 = if x < 0 then x + 256 else x := by
  by_cases e : x < 0
  · rw [if_pos e]
    have := (b255w_all ⟨(x + 256).toNat, by omega⟩).2
    simp only [] at this
    rw [show (((x + 256).toNat : Nat) : Int) - 256 = x by omega] at this
    rw [this]; omega
  · rw [if_neg e]
    have := (b255w_all ⟨x.toNat, by omega⟩).1
    simp only [] at this
    rw [show ((x.toNat : Nat) : Int) = x by omega] at this
    rw [this]
section TokM
variable {σ : St} {Q : Res → St → Prop} {I : TXT}
theorem at_m {p : Nat} (hT : TPm σ I) (hp : σ 14 0 5 = (p : Int)) : (if σ 14 0 5 < σ 14 0 3 then band (σ 66 0 (σ 14 0 5).toNat) 255 else 0) = if p < I.1 then I.2 p else 0 := by
  rw [hp, hT.1, Int.toNat_natCast]
  by_cases e : p < I.1
  · rw [if_pos (by omega), if_pos e]
    exact (hT.2.2 p e).1
  · rw [if_neg (by omega), if_neg e]
theorem sg_m {p : Nat} (hT : TPm σ I) (hp : p < I.1) {v : Int} (h0 : 0 ≤ v) (h1 : v ≤ 127) : σ 66 0 p = v ↔ I.2 p = v := by
  obtain ⟨h2, h3, h4, h5⟩ := hT.2.2 p hp
  rw [b255w h4 h5] at h2
  by_cases e : σ 66 0 p < 0
  · rw [if_pos e] at h2; omega
  · rw [if_neg e] at h2; omega
theorem d_scan {p : Nat} (hT : TPm σ I) (hp : σ 14 0 5 = (p : Int)) (hpl : p ≤ I.1) (h : ∀ τ, FR tmP σ τ → TKm τ I (tS I p) → Q (.inl none) τ) : WP mX13_scan 0 [vR 14 0, vU] [] σ Q := by
  have hL := hT.2.1
  -- a word
  have word : ∀ s : Nat, tS I p = s → lt_ I s → ∀ n q : Nat, n + q = I.1 → s ≤ q → (∀ k, s ≤ k → k < q → lt_ I k) → ∀ τ, FR tmP σ τ → τ 14 0 4 = (s : Int) → τ 14 0 5 = (q : Int) → WP mX13_scan 95 [vR 14 0, vU] [] τ Q := by
    intro s eS hl n
    have fin : ∀ q : Nat, s ≤ q → tE I s = q → ∀ τ, FR tmP σ τ → τ 14 0 4 = (s : Int) → τ 14 0 5 = (q : Int) → (((q : Int) - (s : Int) ≤ 8 → Q (.inl none) (up τ 14 0 6 1)) ∧ (8 < (q : Int) - (s : Int) → Q (.inl none) (up τ 14 0 6 4))) := by
      intro q hsq eE τ f e4 e5
      refine ⟨fun z => ?_, fun z => ?_⟩
      · refine h _ (f.u (by unfold tmP; omega)) ?_
        rw [eS]
        refine ⟨by simp [up, e4], by simp [up, e5, eE], by simp [up]; unfold tK; rw [if_pos hl, if_pos (by omega)], fun q => ?_⟩
        unfold tK at q; rw [if_pos hl, if_pos (by omega)] at q; omega
      · refine h _ (f.u (by unfold tmP; omega)) ?_
        rw [eS]
        refine ⟨by simp [up, e4], by simp [up, e5, eE], by simp [up]; unfold tK; rw [if_pos hl, if_neg (by omega)], fun q => ?_⟩
        unfold tK at q; rw [if_pos hl, if_neg (by omega)] at q; omega
    induction n with
    | zero =>
      intro q hq hsq hk τ f e4 e5
      have hT' := hT.fr f (by unfold tmP; omega)
      have hat := at_m hT' e5
      rw [if_neg (show ¬ q < I.1 by omega)] at hat
      have eE : tE I s = q := by unfold tE; rw [if_pos hl]; exact rn_eq hsq (by omega) hk (fun z => by have := z.1; omega)
      refine b_X13_scan_95 ?_
      rw [hat, e5, e4, hT'.1]
      exact ⟨⟨by omega, by omega⟩, fun _ => ⟨by unfold in32; omega, fin q hsq eE τ f e4 e5⟩, fun z => by omega⟩
    | succ n ih =>
      intro q hq hsq hk τ f e4 e5
      have hT' := hT.fr f (by unfold tmP; omega)
      have hat := at_m hT' e5
      rw [if_pos (show q < I.1 by omega)] at hat
      refine b_X13_scan_95 ?_
      rw [hat, e5, e4, hT'.1]
      refine ⟨⟨by omega, by omega⟩, fun hn => ⟨by unfold in32; omega, ?_⟩, fun hy => ⟨by unfold in32; omega, ?_⟩⟩
      · have eE : tE I s = q := by unfold tE; rw [if_pos hl]; exact rn_eq hsq (by omega) hk (fun z => hn z.2)
        exact fin q hsq eE τ f e4 e5
      · refine ih (q + 1) (by omega) (by omega) (fun k a b => ?_) _ (f.u (by unfold tmP; omega)) (by simp [up, e4]) (by simp [up])
        by_cases e : k = q
        · rw [e]; exact ⟨by omega, hy⟩
        · exact hk k a (by omega)
  -- a number
  have numb : ∀ s : Nat, tS I p = s → dg_ I s → ∀ n q : Nat, n + q = I.1 → s ≤ q → (∀ k, s ≤ k → k < q → dg_ I k) → ∀ τ, FR tmP σ τ → τ 14 0 4 = (s : Int) → τ 14 0 5 = (q : Int) → τ 14 0 7 = dv I.2 s (min (q - s) 4) → WP mX13_scan 160 [vR 14 0, vU] [] τ Q := by
    intro s eS hl n
    have hnl : ¬ lt_ I s := fun z => by have := z.2.1; have := hl.2.2; omega
    have fin : ∀ q : Nat, s ≤ q → tE I s = q → ∀ τ, FR tmP σ τ → τ 14 0 4 = (s : Int) → τ 14 0 5 = (q : Int) → τ 14 0 7 = dv I.2 s (min (q - s) 4) → (((q : Int) - (s : Int) ≤ 4 → Q (.inl none) (up τ 14 0 6 2)) ∧ (4 < (q : Int) - (s : Int) → Q (.inl none) (up τ 14 0 6 4))) := by
      intro q hsq eE τ f e4 e5 e7
      refine ⟨fun z => ?_, fun z => ?_⟩
      · refine h _ (f.u (by unfold tmP; omega)) ?_
        rw [eS]
        refine ⟨by simp [up, e4], by simp [up, e5, eE], by simp [up]; unfold tK; rw [if_neg hnl, if_pos hl, if_pos (by omega)], fun _ => ?_⟩
        unfold tN
        rw [eE, ← e7]
        simp [up]
      · refine h _ (f.u (by unfold tmP; omega)) ?_
        rw [eS]
        refine ⟨by simp [up, e4], by simp [up, e5, eE], by simp [up]; unfold tK; rw [if_neg hnl, if_pos hl, if_neg (by omega)], fun q => ?_⟩
        unfold tK at q; rw [if_neg hnl, if_pos hl, if_neg (by omega)] at q; omega
    induction n with
    | zero =>
      intro q hq hsq hk τ f e4 e5 e7
      have hT' := hT.fr f (by unfold tmP; omega)
      have hat := at_m hT' e5
      rw [if_neg (show ¬ q < I.1 by omega)] at hat
      have eE : tE I s = q := by unfold tE; rw [if_neg hnl, if_pos hl]; exact rn_eq hsq (by omega) hk (fun z => by have := z.1; omega)
      refine b_X13_scan_160 ?_
      rw [hat, e5, e4, hT'.1]
      exact ⟨⟨by omega, by omega⟩, fun _ => ⟨by unfold in32; omega, fin q hsq eE τ f e4 e5 e7⟩, fun z => by omega⟩
    | succ n ih =>
      intro q hq hsq hk τ f e4 e5 e7
      have hT' := hT.fr f (by unfold tmP; omega)
      have hat := at_m hT' e5
      rw [if_pos (show q < I.1 by omega)] at hat
      have hbd := dv_bd (b := I.2) (s := s) (m := min (q - s) 4) (fun k hk' => (hk (s + k) (by omega) (by omega)).2)
      refine b_X13_scan_160 ?_
      rw [hat, e5, e4, hT'.1, e7]
      refine ⟨⟨by omega, by omega⟩, fun hn => ⟨by unfold in32; omega, ?_⟩, fun hy => ⟨by unfold in32; omega, fun z => ⟨by unfold in32; omega, ?_⟩, fun z => ?_⟩⟩
      · have eE : tE I s = q := by unfold tE; rw [if_neg hnl, if_pos hl]; exact rn_eq hsq (by omega) hk (fun z => hn z.2)
        exact fin q hsq eE τ f e4 e5 e7
      · refine ih (q + 1) (by omega) (by omega) (fun k a b => ?_) _ (f.u (by unfold tmP; omega)) (by simp [up, e4]) (by simp [up]) ?_
        · by_cases e : k = q
          · rw [e]; exact ⟨by omega, hy⟩
          · exact hk k a (by omega)
        · rw [show min (q + 1 - s) 4 = min (q - s) 4 by omega, ← e7]; simp [up]
      · have hm : min (q - s) 4 = q - s := by omega
        rw [hm] at hbd ⊢
        have h10 : (10 : Int) ^ (q - s) ≤ 1000 := by
          have e4 : q - s = 0 ∨ q - s = 1 ∨ q - s = 2 ∨ q - s = 3 := by omega
          rcases e4 with e | e | e | e <;> rw [e] <;> decide
        refine ⟨by unfold in32; omega, ⟨by omega, by omega⟩, by unfold in32; omega, by unfold in32; omega, by unfold in32; omega, ?_⟩
        refine ih (q + 1) (by omega) (by omega) (fun k a b => ?_) _ ((f.u (by unfold tmP; omega)).u (by unfold tmP; omega)) (by simp [up, e4]) (by simp [up]) ?_
        · by_cases e : k = q
          · rw [e]; exact ⟨by omega, hy⟩
          · exact hk k a (by omega)
        · rw [show min (q + 1 - s) 4 = (q - s) + 1 by omega, dv, show s + (q - s) = q by omega]
          simp [up]
          omega
  have tok : ∀ q : Nat, q ≤ I.1 → tS I p = q → ∀ τ, FR tmP σ τ → τ 14 0 5 = (q : Int) → WP mX13_scan 52 [vR 14 0, vU] [] τ Q := by
    intro q hq eS τ f e5
    have hT' := hT.fr f (by unfold tmP; omega)
    have hat := at_m hT' e5
    refine b_X13_scan_52 ?_
    rw [hat, e5, hT'.1]
    refine ⟨⟨by omega, by omega⟩, fun hne => ?_, fun he => ?_⟩
    · have hlt : q < I.1 := by omega
      rw [if_pos hlt]
      have f1 : FR tmP σ (up τ 14 0 4 (q : Int)) := f.u (by unfold tmP; omega)
      refine ⟨fun hnl => ⟨fun hnd => ⟨fun h59 => ⟨by unfold in32; omega, ?_⟩, fun h59 => ⟨by unfold in32; omega, ?_⟩⟩, fun hd => ?_⟩, fun hl => ?_⟩
      · have eE : tE I q = q + 1 := by unfold tE; rw [if_neg (fun z => hnl z.2), if_neg (fun z => hnd z.2), if_pos hlt]
        have eK : tK I q = 4 := by unfold tK; rw [if_neg (fun z => hnl z.2), if_neg (fun z => hnd z.2), if_pos hlt, if_neg h59]
        refine h _ ((f1.u (by unfold tmP; omega)).u (by unfold tmP; omega)) ?_
        rw [eS]
        exact ⟨by simp [up], by simp [up, eE], by simp [up, eK], fun z => by omega⟩
      · have eE : tE I q = q + 1 := by unfold tE; rw [if_neg (fun z => hnl z.2), if_neg (fun z => hnd z.2), if_pos hlt]
        have eK : tK I q = 3 := by unfold tK; rw [if_neg (fun z => hnl z.2), if_neg (fun z => hnd z.2), if_pos hlt, if_pos h59]
        refine h _ ((f1.u (by unfold tmP; omega)).u (by unfold tmP; omega)) ?_
        rw [eS]
        exact ⟨by simp [up], by simp [up, eE], by simp [up, eK], fun z => by omega⟩
      · exact numb q eS ⟨hlt, hd⟩ (I.1 - q) q (by omega) (Nat.le_refl _) (fun k a b => by omega) _ (f1.u (by unfold tmP; omega)) (by simp [up]) (by simp [up, e5]) (by simp [up, dv])
      · exact word q eS ⟨hlt, hl⟩ (I.1 - q) q (by omega) (Nat.le_refl _) (fun k a b => by omega) _ f1 (by simp [up]) (by simp [up, e5])
    · have hge : ¬ q < I.1 := by omega
      have eE : tE I q = q := by unfold tE; rw [if_neg (fun z => hge z.1), if_neg (fun z => hge z.1), if_neg hge]
      have eK : tK I q = 0 := by unfold tK; rw [if_neg (fun z => hge z.1), if_neg (fun z => hge z.1), if_neg hge]
      refine h _ ((f.u (by unfold tmP; omega)).u (by unfold tmP; omega)) ?_
      rw [eS]
      exact ⟨by simp [up], by simp [up, e5, eE], by simp [up, eK], fun z => by omega⟩
  have key : ∀ n q : Nat, n + q = I.1 → p ≤ q → (∀ k, p ≤ k → k < q → bl I k) → ∀ τ, FR tmP σ τ → τ 14 0 5 = (q : Int) → WP mX13_scan 0 [vR 14 0, vU] [] τ Q := by
    intro n
    induction n with
    | zero =>
      intro q hq hpq hk τ f e5
      have hT' := hT.fr f (by unfold tmP; omega)
      refine b_X13_scan_0 ⟨fun _ => tok q (by omega) (rn_eq hpq (by omega) hk (fun z => by have := z.1; omega)) τ f e5, fun z => by rw [e5, hT'.1] at z; omega⟩
    | succ n ih =>
      intro q hq hpq hk τ f e5
      have hT' := hT.fr f (by unfold tmP; omega)
      have g32 := sg_m hT' (show q < I.1 by omega) (v := 32) (by omega) (by omega)
      have g10 := sg_m hT' (show q < I.1 by omega) (v := 10) (by omega) (by omega)
      have step : bl I q → WP mX13_scan 0 [vR 14 0, vU] [] (up τ 14 0 5 ((q : Int) + 1)) Q := fun hb => by
        refine ih (q + 1) (by omega) (by omega) (fun k a b => ?_) _ (f.u (by unfold tmP; omega)) (by simp [up])
        by_cases e : k = q
        · rw [e]; exact hb
        · exact hk k a (by omega)
      refine b_X13_scan_0 ?_
      rw [e5, hT'.1, Int.toNat_natCast]
      refine ⟨fun z => by omega, fun _ => ⟨⟨by omega, by omega⟩, fun hy => ⟨by unfold in32; omega, step ⟨by omega, Or.inl (g32.mp hy)⟩⟩, fun hn => ⟨⟨by omega, by omega⟩, fun hn2 => ?_, fun hy => ⟨by unfold in32; omega, step ⟨by omega, Or.inr (g10.mp hy)⟩⟩⟩⟩⟩
      exact tok q (by omega) (rn_eq hpq (by omega) hk (fun z => z.2.elim (fun w => hn (g32.mpr w)) (fun w => hn2 (g10.mpr w)))) τ f e5
  exact key (I.1 - p) p (by omega) (Nat.le_refl _) (fun k a b => by omega) σ FR.rf hp
end TokM
