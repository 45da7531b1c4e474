/-! ===== the class' Trees: nameRings ===== -/
section Rings2
variable {σ : St} {Q : Res → St → Prop} {n top : Nat}
theorem c_nameRings (hn : n ≤ 12) (ht : top < n) (hc : ∀ v, v < n → v ≠ top → σ 51 0 v = (cN σ v : Nat) ∧ cN σ v < n) (h : ∀ τ (k : Nat), FR (fun c i _ => (c = 52 ∨ c = 53) ∧ i = 0) σ τ → NR n top (cN σ) (τ 52 0) (τ 53 0) n k → Q (.inl (some (vI (k : Int)))) τ) : WP mX8_nameRings 0 [vR 9 0, vI (n : Int), vI (top : Int), vU, vU, vU, vU] [] σ Q := by
  have hcn : ∀ v, v < n → v ≠ top → cN σ v < n := fun v h1 h2 => (hc v h1 h2).2
  have e51 : ∀ τ : St, FR (fun c i _ => (c = 52 ∨ c = 53) ∧ i = 0) σ τ → ∀ v, τ 51 0 v = σ 51 0 v := fun τ f v => f 51 0 _ (fun z => by omega)
  have outer : ∀ m a : Nat, m + a = n → ∀ (τ : St) (k : Nat), FR (fun c i _ => (c = 52 ∨ c = 53) ∧ i = 0) σ τ → NR n top (cN σ) (τ 52 0) (τ 53 0) a k → WP mX8_nameRings 21 [vR 9 0, vI (n : Int), vI (top : Int), vI (k : Int), vI (a : Int), vU, vU] [] τ Q := by
    intro m
    induction m with
    | zero =>
      intro a ha τ k f1 hR
      have han : a = n := by omega
      subst han
      exact b_X8_nameRings_21 ⟨fun _ => h τ k f1 hR, fun z => by omega⟩
    | succ m ih =>
      intro a ha τ k f1 hR
      have hka : k ≤ a := hR.2.2.2.2.2.2.2.2.2
      refine b_X8_nameRings_21 ⟨fun z => by omega, fun _ => ?_⟩
      have next : ∀ (υ : St) (k' : Nat), k' ≤ 13 → FR (fun c i _ => (c = 52 ∨ c = 53) ∧ i = 0) σ υ → NR n top (cN σ) (υ 52 0) (υ 53 0) (a + 1) k' → in32 ((a : Int) + 1) ∧ WP mX8_nameRings 21 [vR 9 0, vI (n : Int), vI (top : Int), vI (k' : Int), vI ((a : Int) + 1), vU, vU] [] υ Q := fun υ k' _ g1 g2 => ⟨by unfold in32; omega, ih (a + 1) (by omega) υ k' g1 g2⟩
      -- behind the walk
      have behind : ∀ (υ : St) (i : Nat), FR (fun c i _ => (c = 52 ∨ c = 53) ∧ i = 0) σ υ → υ 53 0 = τ 53 0 → WK n top (cN σ) (τ 52 0) (υ 52 0) a i → i ≤ n → itn (cN σ) i a < n → (itn (cN σ) i a = top ∨ υ 52 0 (itn (cN σ) i a) ≠ -1) → WP mX8_nameRings 81 [vR 9 0, vI (n : Int), vI (top : Int), vI (k : Int), vI (a : Int), vI ((itn (cN σ) i a : Nat) : Int), vU] [] υ Q := by
        intro υ i g1 g53 gW gi gn glast
        refine b_X8_nameRings_81 ?_
        rw [Int.toNat_natCast]
        refine ⟨fun z => next υ k (by omega) g1 (by rw [g53]; exact hR.walk hcn (by omega) gW (Or.inl (by omega))), fun hnt => ⟨⟨by omega, by omega⟩, fun hm => next υ k (by omega) g1 (by rw [g53]; exact hR.walk hcn (by omega) gW (Or.inr ⟨gn, glast.resolve_left (fun z => hnt (by rw [z])), hm⟩)), fun hm => ⟨⟨by omega, by omega⟩, fun hnm => ?_, fun hnm => ?_⟩⟩⟩
        · exfalso
          obtain ⟨l0, l1, l2⟩ : ∃ l0, l0 < i ∧ itn (cN σ) i a = itn (cN σ) l0 a := by
            apply Classical.byContradiction
            intro q
            have := gW.2.2 (itn (cN σ) i a) (fun l hl z => q ⟨l, hl, z⟩)
            rcases hR.1 _ gn with w | w <;> omega
          rw [g53, l2] at hnm
          rcases hR.2.2.2.2.1 _ (gW.1 l0 l1).1 with z | z
          · exact hnm z
          · exact z.1 (gW.1 l0 l1).2.2.1
        · obtain ⟨l0, l1, l2⟩ : ∃ l0, l0 < i ∧ itn (cN σ) i a = itn (cN σ) l0 a := by
            apply Classical.byContradiction
            intro q
            have := gW.2.2 (itn (cN σ) i a) (fun l hl z => q ⟨l, hl, z⟩)
            rcases hR.1 _ gn with w | w <;> omega
          have nmY : ∀ l, l < i → τ 53 0 (itn (cN σ) l a) = -1 := fun l hl => by
            rcases hR.2.2.2.2.1 _ (gW.1 l hl).1 with z | z
            · exact z
            · exact absurd (gW.1 l hl).2.2.1 z.1
          have nam : ∀ r s : Nat, r + s = i - l0 → ∀ ω : St, FR (fun c i _ => (c = 52 ∨ c = 53) ∧ i = 0) σ ω → ω 52 0 = υ 52 0 → (∀ l, l0 ≤ l → l < l0 + s → ω 53 0 (itn (cN σ) l a) = (k : Nat)) → (∀ v, (∀ l, l0 ≤ l → l < l0 + s → v ≠ itn (cN σ) l a) → ω 53 0 v = τ 53 0 v) → WP mX8_nameRings 113 [vR 9 0, vI (n : Int), vI (top : Int), vI (k : Int), vI (a : Int), vI ((itn (cN σ) (l0 + s) a : Nat) : Int), vI (s : Int)] [] ω Q := by
            intro r
            induction r with
            | zero =>
              intro s hs ω o1 o2 o3 o4
              have e1 : l0 + s = i := by omega
              have fin : in32 ((k : Int) + 1) ∧ in32 ((a : Int) + 1) ∧ WP mX8_nameRings 21 [vR 9 0, vI (n : Int), vI (top : Int), vI ((k : Int) + 1), vI ((a : Int) + 1), vU, vU] [] ω Q := by
                have := next ω (k + 1) (by omega) o1 (by rw [o2]; exact hR.ring hcn (by omega) gW gi l1 l2 (fun l q1 q2 => o3 l q1 (by omega)) (fun v q => o4 v (fun l q1 q2 => q l q1 (by omega))))
                exact ⟨by unfold in32; omega, this.1, this.2⟩
              have hnm1 : ω 53 0 (itn (cN σ) (l0 + s) a) = k := by
                rw [e1, l2]; exact o3 l0 (Nat.le_refl _) (by omega)
              refine b_X8_nameRings_113 ?_
              rw [Int.toNat_natCast, hnm1]
              rw [e1]
              exact ⟨fun _ => fin, fun _ => ⟨⟨by omega, by omega⟩, fun _ => fin, fun z => by omega⟩⟩
            | succ r ihr =>
              intro s hs ω o1 o2 o3 o4
              have hy := gW.1 (l0 + s) (by omega)
              have hnm1 : ω 53 0 (itn (cN σ) (l0 + s) a) = -1 := by
                rw [o4 _ (fun l q1 q2 z => gW.2.1 l (l0 + s) q2 (by omega) z.symm)]
                exact nmY _ (by omega)
              have hcy := hc _ hy.1 hy.2.1
              refine b_X8_nameRings_113 ?_
              rw [Int.toNat_natCast, hnm1, e51 ω o1, hcy.1, ← itn_s (cN σ) (l0 + s) a]
              refine ⟨fun z => by omega, fun _ => ⟨⟨by omega, by omega⟩, fun z => absurd rfl z, fun _ => ⟨⟨by omega, by omega⟩, ⟨by omega, by omega⟩, by unfold in32; omega, ?_⟩⟩⟩
              rw [show ((s : Int) + 1) = ((s + 1 : Nat) : Int) by push_cast; rfl]
              refine ihr (s + 1) (by omega) _ (o1.u ⟨Or.inr rfl, rfl⟩) (by rw [← o2]; funext x; exact up_c (by omega)) (fun l q1 q2 => ?_) (fun v q => ?_)
              · by_cases e : l = l0 + s
                · rw [e, up_s]
                · rw [up_j (fun z => gW.2.1 l (l0 + s) (by omega) (by omega) z)]
                  exact o3 l q1 (by omega)
              · rw [up_j (q (l0 + s) (by omega) (by omega))]
                exact o4 v (fun l q1 q2 => q l q1 (by omega))
          have := nam (i - l0) 0 (by omega) υ g1 rfl (fun l q1 q2 => by omega) (fun v _ => by rw [g53])
          rw [Nat.add_zero, ← l2] at this
          exact this
      -- the walk
      have walk : ∀ r i : Nat, r + i = n → ∀ υ : St, FR (fun c i _ => (c = 52 ∨ c = 53) ∧ i = 0) σ υ → υ 53 0 = τ 53 0 → WK n top (cN σ) (τ 52 0) (υ 52 0) a i → itn (cN σ) i a < n → cnt (fun v => υ 52 0 v = -1 ∧ v ≠ top) n + i < n → WP mX8_nameRings 34 [vR 9 0, vI (n : Int), vI (top : Int), vI (k : Int), vI (a : Int), vI ((itn (cN σ) i a : Nat) : Int), vI (i : Int)] [] υ Q := by
        intro r
        induction r with
        | zero => intro i hi υ g1 g53 gW gn gc; omega
        | succ r ihr =>
          intro i hi υ g1 g53 gW gn gc
          refine b_X8_nameRings_34 ?_
          rw [Int.toNat_natCast]
          refine ⟨fun z => by omega, fun _ => ⟨fun he => behind υ i g1 g53 gW (by omega) gn (Or.inl (by omega)), fun hnt => ⟨⟨by omega, by omega⟩, fun hm => behind υ i g1 g53 gW (by omega) gn (Or.inr hm), fun hm => ?_⟩⟩⟩
          have hnt' : itn (cN σ) i a ≠ top := fun z => hnt (by rw [z])
          have hcy := hc _ gn hnt'
          have notY : ∀ l, l < i → itn (cN σ) l a ≠ itn (cN σ) i a := fun l hl z => by
            have := (gW.1 l hl).2.2.2
            rw [z, hm] at this; omega
          have hm0 : τ 52 0 (itn (cN σ) i a) = -1 := by
            rw [← gW.2.2 _ (fun l hl z => notY l hl z.symm)]; exact hm
          rw [e51 υ g1, hcy.1, ← itn_s (cN σ) i a, show ((i : Int) + 1) = ((i + 1 : Nat) : Int) by push_cast; rfl]
          refine ⟨⟨by omega, by omega⟩, ⟨by omega, by omega⟩, by unfold in32; omega, ihr (i + 1) (by omega) _ (g1.u ⟨Or.inl rfl, rfl⟩) (by rw [← g53]; funext x; exact up_c (by omega)) ⟨fun l hl => ?_, fun l p hlp hp => ?_, fun v hv => ?_⟩ (by rw [itn_s]; exact hcy.2) ?_⟩
          · by_cases e : l = i
            · rw [e, up_s]; exact ⟨gn, hnt', hm0, rfl⟩
            · have := gW.1 l (by omega)
              rw [up_j (notY l (by omega))]; exact this
          · by_cases e : p = i
            · rw [e]; exact notY l (by omega)
            · exact gW.2.1 l p hlp (by omega)
          · rw [up_j (hv i (by omega))]
            exact gW.2.2 v (fun l hl => hv l (by omega))
          · have := cnt_lt (P := fun v => (up υ 52 0 (itn (cN σ) i a) (a : Int)) 52 0 v = -1 ∧ v ≠ top) (Q := fun v => υ 52 0 v = -1 ∧ v ≠ top) (m := itn (cN σ) i a) (n := n) gn (fun v _ z => by
              by_cases e : v = itn (cN σ) i a
              · rw [e, up_s] at z; omega
              · rw [up_j e] at z; exact z) ⟨hm, hnt'⟩ (fun z => by rw [up_s] at z; omega)
            omega
      refine walk n 0 (by omega) τ f1 rfl ⟨fun l hl => by omega, fun l p _ hp => by omega, fun v _ => rfl⟩ (by show a < n; omega) ?_
      have := cnt_lt (P := fun v => τ 52 0 v = -1 ∧ v ≠ top) (Q := fun _ => True) (m := top) (n := n) ht (fun _ _ _ => trivial) trivial (fun z => z.2 rfl)
      have := cnt_bd (fun _ => True) n
      omega
  refine b_X8_nameRings_0 (c_fill (by omega) rfl rfl (by omega) rfl ?_)
  show WP mX8_nameRings 8 [vR 9 0, vI (n : Int), vI (top : Int), vU, vU, vU, vU] [] _ Q
  refine b_X8_nameRings_8 (c_fill (by omega) rfl rfl (by omega) rfl ?_)
  show WP mX8_nameRings 16 [vR 9 0, vI (n : Int), vI (top : Int), vU, vU, vU, vU] [] _ Q
  refine b_X8_nameRings_16 ?_
  have m52 : ∀ v, v < 12 → (upR (upR σ 52 0 0 (al 52) (fun _ => -1)) 53 0 0 (al 53) (fun _ => -1)) 52 0 v = -1 := fun v hv => by
    unfold upR
    rw [if_neg (fun z => by omega), if_pos ⟨rfl, rfl, by omega, by show v < 0 + 12; omega⟩]
  have m53 : ∀ v, v < 12 → (upR (upR σ 52 0 0 (al 52) (fun _ => -1)) 53 0 0 (al 53) (fun _ => -1)) 53 0 v = -1 := fun v hv => by
    unfold upR
    rw [if_pos ⟨rfl, rfl, by omega, by show v < 0 + 12; omega⟩]
  refine outer n 0 (by omega) _ 0 ((FR.rf.uR (fun k _ _ => ⟨Or.inl rfl, rfl⟩)).uR (fun k _ _ => ⟨Or.inr rfl, rfl⟩)) ⟨fun v hv => Or.inl (m52 v (by omega)), m52 top (by omega), fun v hv => by omega, fun v hv z => absurd (m52 v (by omega)) z, fun v hv => Or.inl (m53 v (by omega)), fun v hv z => absurd (m53 v (by omega)) z, fun u v hu _ z => absurd (m53 u (by omega)) z, fun i hi => by omega, ⟨fun _ => 0, fun v hv z => absurd (m52 v (by omega)) z⟩, by omega⟩
end Rings2
