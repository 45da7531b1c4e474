/-! ===== the class' measure, leastSum ===== -/
def BT (σ : St) (i : Nat) (V : Vy) : Prop := ∀ a b : Nat, (a : Int) < σ 5 i 0 → (b : Int) < σ 5 i 0 → ∀ F, DIST V (fun s => hm σ i s = (b : Int)) F → ∀ s, isSt V s → hm σ i s = (a : Int) → σ 22 i (a * 12 + b) = F s / 4096
def meP (i j : Nat) (c i' k : Nat) : Prop := sP j c i' k ∨ (i' = i ∧ (c = 22 ∨ (c = 2 ∧ k = 6)))
section Measure
variable {i j : Nat} {σ : St} {Q : Res → St → Prop} {V : Vy}
theorem c_measure (hV : VOK V) (hA : VA σ i V) (hR : REP σ i V) (hS : RS σ i V) (h12 : σ 5 i 0 ≤ 12) (hB : σ 2 i 6 ≠ 0 → BT σ i V) (h : ∀ τ, FR (meP i j) σ τ → τ 2 i 6 ≠ 0 → BT τ i V → Q (.inl none) τ) : WP mX1_measure 0 [vR 2 i, vR 6 j, vU, vU] [] σ Q := by
  have hn0 := hS.1.2.2.2.2
  have eh : ∀ τ, FR (meP i j) σ τ → hm τ i = hm σ i := fun τ f => by funext s; exact f 27 i _ (fun z => by unfold meP sP at z; omega)
  have e5 : ∀ τ, FR (meP i j) σ τ → τ 5 i 0 = σ 5 i 0 := fun τ f => f 5 i 0 (fun z => by unfold meP sP at z; omega)
  refine b_X1_measure_0 ⟨fun hne => h σ FR.rf hne (hB hne), fun _ => ⟨fun _ => ?_, fun z => by omega⟩⟩
  -- least of a REST
  have lst : ∀ a : Nat, (a : Int) < σ 5 i 0 → (0 ≤ σ 30 i a ∧ σ 30 i a < 1024) ∧ isSt V (σ 29 i (σ 30 i a).toNat) ∧ hm σ i (σ 29 i (σ 30 i a).toNat) = a := fun a ha => by
    have hm' := hS.2.2.2.1 (a : Int) (by omega) ha
    unfold RSm at hm'
    rw [Int.toNat_natCast] at hm'
    have := hm'.2.2.2.1 (σ 30 i a).toNat (by omega) (by omega)
    exact ⟨⟨hm'.1, by omega⟩, this⟩
  have outer : ∀ m b : Nat, ((m + b : Nat) : Int) = σ 5 i 0 → ∀ τ, FR (meP i j) σ τ → (∀ a b' : Nat, (a : Int) < σ 5 i 0 → b' < b → ∀ F, DIST V (fun s => hm σ i s = (b' : Int)) F → ∀ s, isSt V s → hm σ i s = (a : Int) → τ 22 i (a * 12 + b') = F s / 4096) → WP mX1_measure 22 [vR 2 i, vR 6 j, vI (b : Int), vU] [] τ Q := by
    intro m
    induction m with
    | zero =>
      intro b hb τ f1 hv
      refine b_X1_measure_22 ⟨fun _ => h _ (f1.u (Or.inr ⟨rfl, by omega⟩)) (by rw [up_s]; omega) ?_, fun z => by rw [e5 τ f1] at z; omega⟩
      have f2 : FR (meP i j) σ (up τ 2 i 6 1) := f1.u (Or.inr ⟨rfl, by omega⟩)
      intro a b' ha hb' F hF s hs hsa
      rw [e5 _ f2] at ha hb'
      rw [eh _ f2] at hF hsa
      rw [up_c (by omega)]
      exact hv a b' ha (by omega) F hF s hs hsa
    | succ m ih =>
      intro b hb τ f1 hv
      have hA' : VA τ i V := hA.fr f1 (fun c k hc z => by unfold meP sP at z; omega)
      have hR' : REP τ i V := hR.fr f1 (fun k z => by unfold meP sP at z; omega)
      have hS' : RS τ i V := hS.fr f1 (fun c k hc z => by unfold meP sP at z; omega)
      obtain ⟨s0, s1, s2⟩ := hS.1.2.2.2.1 (b : Int) (by omega) (by omega)
      obtain ⟨F, hD⟩ := dist_ex hV (Tg := fun s => hm σ i s = (b : Int)) s1.1 s2
      refine b_X1_measure_22 ⟨fun z => by rw [e5 τ f1] at z; omega, fun _ => ?_⟩
      refine c_toRest hV hA' hR' hS' (by omega) (by rw [e5 τ f1]; omega) (by rw [eh τ f1]; exact hD) (fun υ u1 u2 => ?_)
      have F1 : FR (meP i j) σ υ := f1.tr (u1.wk (fun c a b z => Or.inl z))
      show WP mX1_measure 39 [vR 2 i, vR 6 j, vI (b : Int), vU] [] υ Q
      refine b_X1_measure_39 ?_
      have inner : ∀ r a : Nat, ((r + a : Nat) : Int) = σ 5 i 0 → ∀ ω, FR (meP i j) σ ω → (∀ u, isSt V u → Kf ω j u = F u / 4096) → (∀ a' b' : Nat, (a' : Int) < σ 5 i 0 → (b' < b ∨ (b' = b ∧ a' < a)) → ∀ F, DIST V (fun s => hm σ i s = (b' : Int)) F → ∀ s, isSt V s → hm σ i s = (a' : Int) → ω 22 i (a' * 12 + b') = F s / 4096) → WP mX1_measure 41 [vR 2 i, vR 6 j, vI (b : Int), vI (a : Int)] [] ω Q := by
        intro r
        induction r with
        | zero =>
          intro a ha ω o1 o2 o3
          refine b_X1_measure_41 ⟨fun _ => ⟨by unfold in32; omega, ih (b + 1) (by omega) ω o1 (fun a' b' ha' hb' => o3 a' b' ha' (by omega))⟩, fun z => by rw [e5 ω o1] at z; omega⟩
        | succ r ihr =>
          intro a ha ω o1 o2 o3
          have haN : (a : Int) < σ 5 i 0 := by omega
          obtain ⟨l1, l2, l3⟩ := lst a haN
          have hlb := st_bd hV l2
          have e30 : ω 30 i a = σ 30 i a := o1 30 i a (fun z => by unfold meP sP at z; omega)
          have e29 : ∀ x, ω 29 i x = σ 29 i x := fun x => o1 29 i x (fun z => by unfold meP sP at z; omega)
          have eK : ω 37 j (σ 29 i (σ 30 i a).toNat).toNat = F (σ 29 i (σ 30 i a).toNat) / 4096 := o2 _ l2
          refine b_X1_measure_41 ?_
          simp only [Int.toNat_natCast]
          rw [e30, e29, eK, e5 ω o1, show ((a : Int) * 12 + (b : Int)).toNat = a * 12 + b by omega]
          refine ⟨fun z => by omega, fun _ => ⟨by unfold in32; omega, by unfold in32; omega, ⟨by omega, by omega, by omega, by omega⟩, ⟨by omega, by omega⟩, ⟨by omega, by omega⟩, by unfold in32; omega, ?_⟩⟩
          refine ihr (a + 1) (by omega) _ (o1.u (Or.inr ⟨rfl, by omega⟩)) (fun u hu => by rw [kf_o (by omega)]; exact o2 u hu) (fun a' b' ha' hb' G hG s hs hsa => ?_)
          by_cases e : a' = a ∧ b' = b
          · rw [e.1, e.2, up_s]
            rw [e.2] at hG
            rw [e.1] at hsa
            rw [hD.uniq hV hG _ l2]
            exact hS.1.far hV hG (by omega) l2 hs l3 hsa
          · rw [up_j (fun z => e (by omega))]
            exact o3 a' b' ha' (by omega) G hG s hs hsa
      exact inner (σ 5 i 0).toNat 0 (by omega) υ F1 u2 (fun a' b' ha' hb' G hG s hs hsa => by
        rw [u1 22 i _ (fun z => by unfold sP at z; omega)]
        exact hv a' b' ha' (by omega) G hG s hs hsa)
  exact outer (σ 5 i 0).toNat 0 (by omega) σ FR.rf (fun a b' _ hb' => by omega)
def lsP (c i _j : Nat) : Prop := (48 ≤ c ∧ c ≤ 53) ∧ i = 0
def btw (σ : St) (j a b : Nat) : Int := σ 22 j (a * 12 + b)
theorem c_leastSum {N root : Nat} (hN : σ 5 j 0 = (N : Nat)) (hN12 : N ≤ 12) (hr : root < N) (hb : ∀ a b, a < N → b < N → 0 ≤ σ 22 j (a * 12 + b) ∧ σ 22 j (a * 12 + b) ≤ 1000000) (h : ∀ τ x, FR lsP σ τ → (∀ a, a < 12 → τ 48 0 a = -1) → MTS N root (fun _ _ => True) (btw σ j) x → Q (.inl (some (vI x))) τ) : WP mX8_leastSum 0 [vR 9 0, vR 2 j, vI (root : Int)] [] σ Q := by
  refine b_X8_leastSum_0 (c_fill (by omega) rfl rfl (by omega) rfl ?_)
  show WP mX8_leastSum 8 [vR 9 0, vR 2 j, vI (root : Int)] [] _ Q
  refine b_X8_leastSum_8 ?_
  have f0 : FR lsP σ (upR σ 48 0 0 (al 48) (fun _ => -1)) := FR.rf.uR (fun k _ _ => ⟨by omega, rfl⟩)
  have e48 : ∀ a, a < 12 → (upR σ 48 0 0 (al 48) (fun _ => -1)) 48 0 a = -1 := fun a ha => by
    unfold upR
    rw [if_pos ⟨rfl, rfl, by omega, by show a < 0 + 12; omega⟩]
  have e22 : ∀ x, (upR σ 48 0 0 (al 48) (fun _ => -1)) 22 j x = σ 22 j x := fun x => f0 22 j x (fun z => by unfold lsP at z; omega)
  have e5 : (upR σ 48 0 0 (al 48) (fun _ => -1)) 5 j 0 = σ 5 j 0 := f0 5 j 0 (fun z => by unfold lsP at z; omega)
  generalize (upR σ 48 0 0 (al 48) (fun _ => -1)) = τ at *
  refine c_sumAsFixed (N := N) (root := root) (by rw [e5]; exact hN) hN12 hr (fun a b ha hb' => by rw [e22]; exact hb a b ha hb') (fun υ x u1 u2 => ?_)
  show WP mX8_leastSum 14 [vU, vU, vU] [vI x] υ Q
  refine b_X8_leastSum_14 (h υ x (f0.tr (u1.wk (fun c a b z => ⟨by have := z.1; omega, z.2⟩))) (fun a ha => by rw [u1 48 0 a (fun z => by unfold suP at z; omega)]; exact e48 a ha) (u2.cg (fun a b ha hb' _ => ?_)))
  unfold w0F btw
  rw [if_neg (fun z => z.1 (e48 a (by omega))), e22]
end Measure
