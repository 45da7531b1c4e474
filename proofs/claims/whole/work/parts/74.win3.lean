/-! ===== the model's winnersNow ===== -/
def CSH (σ τ : St) (V : Vy) : Prop := ∀ a b : Nat, (a : Int) < σ 14 0 51 → (b : Int) < σ 14 0 51 → a ≠ b → ∀ F, DIST V (fun s => ri σ s = (b : Int)) F → ∀ s, isSt V s → ri σ s = (a : Int) → wH τ a b = F s / 4096
def wwP (c i j : Nat) : Prop := coP c i j ∨ (c = 93 ∧ i = 0) ∨ smP c i j
section Win3
variable {σ : St} {Q : Res → St → Prop} {V : Vy}
theorem d_holdAll (h : ∀ τ, FR (fun c i _ => c = 93 ∧ i = 0) σ τ → (∀ x, x < 144 → τ 93 0 x = σ 92 0 x) → Q (.inl none) τ) : WP mX13_holdAll 0 [vR 14 0, vU] [] σ Q := by
  refine b_X13_holdAll_0 ?_
  have key : ∀ m x : Nat, m + x = 144 → ∀ τ : St, FR (fun c i _ => c = 93 ∧ i = 0) σ τ → (∀ y, y < x → τ 93 0 y = σ 92 0 y) → WP mX13_holdAll 2 [vR 14 0, vI (x : Int)] [] τ Q := by
    intro m
    induction m with
    | zero =>
      intro x hx τ f1 hv
      exact b_X13_holdAll_2 ⟨fun _ => h τ f1 (fun y hy => hv y (by omega)), fun z => by omega⟩
    | succ m ih =>
      intro x hx τ f1 hv
      refine b_X13_holdAll_2 ⟨fun z => by omega, fun _ => ⟨⟨by omega, by omega⟩, ⟨by omega, by omega⟩, by unfold in32; omega, ?_⟩⟩
      rw [Int.toNat_natCast]
      refine ih (x + 1) (by omega) _ (f1.u ⟨rfl, rfl⟩) (fun y hy => ?_)
      by_cases e : y = x
      · rw [e, up_s]; exact f1 92 0 x (fun z => by omega)
      · rw [up_j e]; exact hv y (by omega)
  exact key 144 0 (by omega) σ FR.rf (fun y hy => by omega)
theorem MTS.ad {n r : Nat} {ad ad' : Nat → Nat → Prop} {w : Nat → Nat → Int} {x : Int} (hq : ∀ a b, a < n → b < n → a ≠ b → (ad a b ↔ ad' a b)) (h : MTS n r ad w x) : MTS n r ad' w x := by
  have tr : ∀ f, TR n r ad f ↔ TR n r ad' f := fun f => ⟨fun ⟨dp, hf⟩ => ⟨dp, fun v hv hne => by
    have q := hf v hv hne
    exact ⟨q.1, q.2.1, (hq v (f v) hv q.1 (fun z => q.2.1 z.symm)).mp q.2.2.1, q.2.2.2⟩⟩, fun ⟨dp, hf⟩ => ⟨dp, fun v hv hne => by
    have q := hf v hv hne
    exact ⟨q.1, q.2.1, (hq v (f v) hv q.1 (fun z => q.2.1 z.symm)).mpr q.2.2.1, q.2.2.2⟩⟩⟩
  obtain ⟨⟨f, f1, f2⟩, f3⟩ := h
  exact ⟨⟨f, (tr f).mp f1, f2⟩, fun g hg => f3 g ((tr g).mpr hg)⟩
theorem CSH.bd {τ : St} (hV : VOK V) (hS : MRS σ V) (hB : CSH σ τ V) {a b : Nat} (ha : (a : Int) < σ 14 0 51) (hb : (b : Int) < σ 14 0 51) (hab' : a ≠ b) : 0 ≤ wH τ a b ∧ wH τ a b ≤ 30 := by
  obtain ⟨s, s1, s2⟩ := hS.1.2.2.2.1 (b : Int) (by omega) hb
  obtain ⟨t, t1, t2⟩ := hS.1.2.2.2.1 (a : Int) (by omega) ha
  obtain ⟨F, hD⟩ := dist_ex hV (Tg := fun x => ri σ x = (b : Int)) s1.1 s2
  rw [hB a b ha hb hab' F hD t t1.1 t2]
  have := (hD t t1.1).1
  have := hD.le hV s1.1 s2 t t1.1
  omega
theorem d_winnersNow {N : Nat} (hV : VOK V) (hT : MT σ V) (hR : MRP σ V) (hS : MRS σ V) (hN : σ 14 0 51 = (N : Nat)) (hN12 : N ≤ 12) (h : ∀ τ L b, FR wwP σ τ → CSH σ τ V → WB (fun k x => MTS N k (fun _ _ => True) (wH τ) x) N L b → Q (.inl (some (vI b))) τ) : WP mX13_winnersNow 0 [vR 14 0, vU, vU, vU, vU] [] σ Q := by
  refine b_X13_winnersNow_0 (d_findCosts hV hT hR hS (by omega) (fun τ1 f1 hC => ?_))
  show WP mX13_winnersNow 4 [vR 14 0, vU, vU, vU, vU] [] τ1 Q
  refine b_X13_winnersNow_4 (d_holdAll (fun τ0 f2 hH => ?_))
  show WP mX13_winnersNow 8 [vR 14 0, vU, vU, vU, vU] [] τ0 Q
  refine b_X13_winnersNow_8 ?_
  have hC0 : CSH σ τ0 V := fun a b ha hb hne F hF s hs hsa => by
    show τ0 93 0 (12 * a + b) = F s / 4096
    rw [hH _ (by omega)]
    exact (hC a b ha hb).2 hne F hF s hs hsa
  have e51 : τ0 14 0 51 = (N : Nat) := by
    rw [f2 14 0 51 (fun z => by omega), f1 14 0 51 (fun z => by unfold coP mkP at z; omega)]; exact hN
  have hbd : ∀ a b, a < N → b < N → a ≠ b → 0 ≤ wH τ0 a b ∧ wH τ0 a b ≤ 30 := fun a b ha hb hne => hC0.bd hV hS (by omega) (by omega) hne
  have un : ∀ k x y, MTS N k (fun _ _ => True) (wH τ0) x → MTS N k (fun _ _ => True) (wH τ0) y → x = y := fun k x y h1 h2 => h1.un h2
  have key : ∀ m k : Nat, m + k = N → ∀ (τ : St) (L b : Int), FR smP τ0 τ → (k = 0 → L = 1000000000) → (0 ≤ L ∧ L ≤ 1000000000) → WB (fun k x => MTS N k (fun _ _ => True) (wH τ0) x) k L b → WP mX13_winnersNow 16 [vR 14 0, vI L, vI b, vI (k : Int), vU] [] τ Q := by
    intro m
    have e5 : ∀ υ, FR smP τ0 υ → υ 14 0 51 = (N : Nat) := fun υ f => by rw [f 14 0 51 (fun z => by unfold smP at z; omega)]; exact e51
    have ew : ∀ υ, FR smP τ0 υ → wH υ = wH τ0 := fun υ f => by funext a b; exact f 93 0 _ (fun z => by unfold smP at z; omega)
    induction m with
    | zero =>
      intro k hk τ L b g1 hL hLb hW
      have hkN : k = N := by omega
      subst hkN
      refine b_X13_winnersNow_16 ⟨fun _ => ?_, fun z => by rw [e5 τ g1] at z; omega⟩
      refine h τ L b (((f1.wk (fun c i j z => Or.inl z)).tr (f2.wk (fun c i j z => Or.inr (Or.inl z)))).tr (g1.wk (fun c i j z => Or.inr (Or.inr z)))) ?_ (by rw [ew τ g1]; exact hW)
      unfold CSH
      rw [ew τ g1]
      exact hC0
    | succ m ih =>
      intro k hk τ L b g1 hL hLb hW
      refine b_X13_winnersNow_16 ⟨fun z => by rw [e5 τ g1] at z; omega, fun _ => ?_⟩
      refine d_sumTo (N := N) (e5 τ g1) hN12 (by omega) (fun a b' ha hb' hne => by rw [ew τ g1]; have := hbd a b' ha hb' hne; exact ⟨by omega, by omega, fun _ => by omega⟩) (fun υ x u1 u3 => ?_) (fun υ u1 hno => ?_)
      · rw [ew τ g1] at u3
        replace u3 : MTS N k (fun _ _ => True) (wH τ0) x := u3.ad (fun a b' ha hb' hne => ⟨fun _ => trivial, fun _ => by have := hbd a b' ha hb' hne; omega⟩)
        have hst := star (B := 30) (by omega) (by omega) hbd u3
        have F2 : FR smP τ0 υ := g1.tr u1
        have hb1 := hW.1
        show WP mX13_winnersNow 29 [vR 14 0, vI L, vI b, vI (k : Int), vU] [vI x] υ Q
        refine b_X13_winnersNow_29 ⟨fun hge => b_X13_winnersNow_39 ⟨fun hlt => ⟨by unfold in32; omega, ?_⟩, fun hle => ⟨by unfold in32; omega, ?_⟩⟩, fun hlt => b_X13_winnersNow_39 ⟨fun z => by omega, fun _ => ⟨by unfold in32; omega, ?_⟩⟩⟩
        · rw [show min L x = L by omega]
          exact ih (k + 1) (by omega) υ L b F2 (fun z => by omega) hLb (hW.gt un u3 (fun z => by have := hL z; omega) hlt)
        · have he : x = L := by omega
          rw [show min L x = L by omega, bor1 (m := b) (q := (k : Int)) hb1.1 (by omega) (by omega) (by omega), Int.toNat_natCast]
          exact ih (k + 1) (by omega) υ L _ F2 (fun z => by omega) hLb (hW.eq (by omega) (by rw [← he]; exact u3))
        · rw [show min L x = x by omega, bor1 (m := 0) (q := (k : Int)) (by omega) (by omega) (by omega) (by omega), Int.toNat_natCast]
          exact ih (k + 1) (by omega) υ x _ F2 (fun z => by omega) ⟨hst.1, by omega⟩ (hW.lt (by omega) u3 hlt un)
      · exfalso
        refine hno (fun _ => k) ⟨fun v => if v = k then 0 else 1, fun v hv hne => ⟨by show k < N; omega, fun z => hne z.symm, ?_, ?_⟩⟩
        · show wH τ v k < 1000000000
          rw [ew τ g1]
          have := hbd v k hv (by omega) hne
          omega
        · show (if k = k then 0 else 1) < (if v = k then 0 else 1)
          rw [if_pos rfl, if_neg hne]; omega
  exact key N 0 (by omega) τ0 1000000000 0 FR.rf (fun _ => rfl) ⟨by omega, by omega⟩ ⟨⟨by omega, by show (0 : Nat) < 2 ^ 12; omega⟩, fun i hi => by omega, fun r => ⟨fun z => absurd z (tbit_0 r), fun z => by omega⟩, Or.inl rfl⟩
end Win3
