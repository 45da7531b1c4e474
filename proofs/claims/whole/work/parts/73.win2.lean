/-! ===== the class' winnersOf ===== -/
def wnP (j : Nat) (c i k : Nat) : Prop := meP j 0 c i k ∨ lsP c i k
section Win2
variable {j : Nat} {σ : St} {Q : Res → St → Prop} {V : Vy}
theorem BT.bd (hV : VOK V) (hS : RS σ j V) (hB : BT σ j V) {a b : Nat} (ha : (a : Int) < σ 5 j 0) (hb : (b : Int) < σ 5 j 0) : 0 ≤ σ 22 j (a * 12 + b) ∧ σ 22 j (a * 12 + b) ≤ 30 := by
  obtain ⟨s, s1, s2⟩ := hS.1.2.2.2.1 (b : Int) (by omega) hb
  obtain ⟨t, t1, t2⟩ := hS.1.2.2.2.1 (a : Int) (by omega) ha
  obtain ⟨F, hD⟩ := dist_ex hV (Tg := fun x => hm σ j x = (b : Int)) s1.1 s2
  rw [hB a b ha hb F hD t t1.1 t2]
  have := (hD t t1.1).1
  have := hD.le hV s1.1 s2 t t1.1
  omega
theorem c_winnersOf {N : Nat} (hV : VOK V) (hA : VA σ j V) (hR : REP σ j V) (hS : RS σ j V) (hN : σ 5 j 0 = (N : Nat)) (hN12 : N ≤ 12) (hB : σ 2 j 6 ≠ 0 → BT σ j V) (h : ∀ τ L b, FR (wnP j) σ τ → τ 2 j 6 ≠ 0 → BT τ j V → WB (fun k x => MTS N k (fun _ _ => True) (btw τ j) x) N L b → Q (.inl (some (vI b))) τ) : WP mX11_winnersOf 0 [vR 12 0, vR 2 j, vU, vU, vU, vU] [] σ Q := by
  refine b_X11_winnersOf_0 (c_measure hV hA hR hS (by omega) hB (fun τ0 f0 g1 g2 => ?_))
  show WP mX11_winnersOf 8 [vR 12 0, vR 2 j, vU, vU, vU, vU] [] τ0 Q
  refine b_X11_winnersOf_8 ?_
  have hS0 : RS τ0 j V := hS.fr f0 (fun c k hc z => by unfold meP sP at z; omega)
  have e50 : τ0 5 j 0 = (N : Nat) := by rw [f0 5 j 0 (fun z => by unfold meP sP at z; omega)]; exact hN
  have hbd : ∀ a b, a < N → b < N → 0 ≤ τ0 22 j (a * 12 + b) ∧ τ0 22 j (a * 12 + b) ≤ 30 := fun a b ha hb => g2.bd hV hS0 (by omega) (by omega)
  have un : ∀ k x y, MTS N k (fun _ _ => True) (btw τ0 j) x → MTS N k (fun _ _ => True) (btw τ0 j) y → x = y := fun k x y h1 h2 => h1.un h2
  have key : ∀ m k : Nat, m + k = N → ∀ (τ : St) (L b : Int), FR lsP τ0 τ → (k = 0 → L = 1000000) → WB (fun k x => MTS N k (fun _ _ => True) (btw τ0 j) x) k L b → WP mX11_winnersOf 16 [vR 12 0, vR 2 j, vI L, vI b, vI (k : Int), vU] [] τ Q := by
    intro m
    have e5 : ∀ υ, FR lsP τ0 υ → υ 5 j 0 = (N : Nat) := fun υ f => by rw [f 5 j 0 (fun z => by unfold lsP at z; omega)]; exact e50
    have e22 : ∀ υ, FR lsP τ0 υ → ∀ x, υ 22 j x = τ0 22 j x := fun υ f x => f 22 j x (fun z => by unfold lsP at z; omega)
    have eb : ∀ υ, FR lsP τ0 υ → btw υ j = btw τ0 j := fun υ f => by funext a b; exact e22 υ f _
    induction m with
    | zero =>
      intro k hk τ L b f1 hL hW
      have hkN : k = N := by omega
      subst hkN
      refine b_X11_winnersOf_16 ⟨fun _ => ?_, fun z => by rw [e5 τ f1] at z; omega⟩
      refine h τ L b ((f0.wk (fun c i k z => Or.inl z)).tr (f1.wk (fun c i k z => Or.inr z))) (by rw [f1 2 j 6 (fun z => by unfold lsP at z; omega)]; exact g1) ?_ (by rw [eb τ f1]; exact hW)
      intro a b' ha hb' F hF s hs hsa
      have eh : hm τ j = hm τ0 j := by funext u; exact f1 27 j _ (fun z => by unfold lsP at z; omega)
      rw [eh] at hF hsa
      rw [e22 τ f1]
      rw [e5 τ f1] at ha hb'
      exact g2 a b' (by omega) (by omega) F hF s hs hsa
    | succ m ih =>
      intro k hk τ L b f1 hL hW
      refine b_X11_winnersOf_16 ⟨fun z => by rw [e5 τ f1] at z; omega, fun _ => ⟨fun z => by omega, fun _ => ?_⟩⟩
      refine c_leastSum (N := N) (e5 τ f1) hN12 (by omega) (fun a b ha hb => by rw [e22 τ f1]; have := hbd a b ha hb; omega) (fun υ x u1 u2 u3 => ?_)
      rw [eb τ f1] at u3
      have hst := star (B := 30) (by omega) (by omega) (fun a b ha hb _ => hbd a b ha hb) u3
      have F2 : FR lsP τ0 υ := f1.tr u1
      have hb1 := hW.1
      show WP mX11_winnersOf 45 [vR 12 0, vR 2 j, vI L, vI b, vI (k : Int), vU] [vI x] υ Q
      refine b_X11_winnersOf_45 ?_
      rw [bor1 (m := b) (q := (k : Int)) hb1.1 (by omega) (by omega) (by omega), bor1 (m := 0) (q := (k : Int)) (by omega) (by omega) (by omega) (by omega), Int.toNat_natCast]
      refine ⟨fun hge => ⟨fun hne => ⟨by unfold in32; omega, ih (k + 1) (by omega) υ L b F2 (fun z => by omega) (hW.gt un u3 (fun z => by have := hL z; omega) (by omega))⟩, fun he => ⟨by unfold in32; omega, ih (k + 1) (by omega) υ L _ F2 (fun z => by omega) (hW.eq (by omega) (by rw [← he]; exact u3))⟩⟩, fun hlt => ⟨fun z => absurd rfl z, fun _ => ⟨by unfold in32; omega, ih (k + 1) (by omega) υ x _ F2 (fun z => by omega) (hW.lt (by omega) u3 hlt un)⟩⟩⟩
  exact key N 0 (by omega) τ0 1000000 0 FR.rf (fun _ => rfl) ⟨⟨by omega, by show (0 : Nat) < 2 ^ 12; omega⟩, fun i hi => by omega, fun r => ⟨fun z => absurd z (tbit_0 r), fun z => by omega⟩, Or.inl rfl⟩
end Win2
