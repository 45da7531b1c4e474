/-! ===== a round, with edges that are barred; the model's findCosts ===== -/
section RoundG
variable {n n' top : Nat} {ad ad' : Nat → Nat → Prop} {w w' : Nat → Nat → Int}
theorem round_conG {c : Nat → Nat} {mk nm0 : Nat → Int} {nm : Nat → Nat} {k : Nat} (ht : top < n) (hC : CHP n top ad w c) (hR : NR n top c mk nm0 n k) (hk : k ≠ 0) (h1 : ∀ a, a < n → nm a < n') (h2 : ∀ a, a < n → nm0 a ≠ -1 → (nm a : Int) = nm0 a) (h3 : ∀ a b, a < n → b < n → nm0 a = -1 → nm a = nm b → a = b) (h4 : ∀ A, A < n' → ∃ a, a < n ∧ nm a = A) (h5 : ∀ A B, A < n' → B < n' → A ≠ B → A ≠ nm top → (∀ a b, a < n → b < n → nm a = A → nm b = B → ad a b → ad' A B ∧ w' A B ≤ w a b - w a (c a)) ∧ (ad' A B → ∃ a b, a < n ∧ b < n ∧ nm a = A ∧ nm b = B ∧ ad a b ∧ w' A B = w a b - w a (c a))) : n' < n ∧ (∀ x, MTS n' (nm top) ad' w' x → MTS n top ad w (ts n top w c + x)) ∧ ((∀ f, ¬ TR n' (nm top) ad' f) → ∀ f, ¬ TR n top ad f) := by
  obtain ⟨r1, r2, r3, r4, r5, r6, r7, r8, r9, r10⟩ := hR
  have ntop : nm0 top = -1 := by
    rcases r5 top ht with z | z
    · exact z
    · exact absurd r2 z.1
  have named : ∀ v, v < n → nm0 v ≠ -1 → v ≠ top ∧ c v < n ∧ c v ≠ v ∧ nm (c v) = nm v := fun v hv hne => by
    have hvt : v ≠ top := fun z => hne (by rw [z]; exact ntop)
    have hc := hC v hv hvt
    have e := r6 v hv hne
    refine ⟨hvt, hc.1, hc.2.1, ?_⟩
    have e1 := h2 v hv hne
    have e2 := h2 (c v) hc.1 (by rw [e]; exact hne)
    omega
  obtain ⟨v0, v1, v2⟩ := r8 0 (by omega)
  have hv0 := named v0 v1 (by omega)
  obtain ⟨st, hst⟩ := st_ex c n
  have one : ∀ v, v < n → nm v = nm top → v = top := fun v hv he => (h3 top v ht hv ntop he.symm).symm
  have con : CON n top ad w c nm n' ad' w' st := by
    refine ⟨h1, h4, one, fun a v ha hv he => ?_, fun A B hA hB hAB hAt had => (h5 A B hA hB hAB hAt).2 had, fun a b ha hb hat hne had => ?_⟩
    · by_cases e : a = v
      · have := hst a v ⟨0, by omega, e.symm⟩
        exact ⟨this.1, fun z => absurd e z⟩
      · have na : nm0 a ≠ -1 := fun z => e (h3 a v ha hv z he)
        have nv : nm0 v ≠ -1 := fun z => e (h3 v a hv ha z he.symm).symm
        have hreach := r7 a v ha hv na (by rw [← h2 a ha na, ← h2 v hv nv, he])
        obtain ⟨s1, s2, s3⟩ := hst a v hreach
        have hnv := named v hv nv
        refine ⟨s1, fun _ => ⟨hnv.2.2.2, ?_⟩⟩
        have s0 : st a v ≠ 0 := fun z => by rw [z] at s2; exact e s2.symm
        obtain ⟨m, hm⟩ : ∃ m, st a v = m + 1 := ⟨st a v - 1, by omega⟩
        rw [hm] at s2
        have := (hst a (c v) ⟨m, by omega, s2⟩).2.2 m s2
        omega
    · exact (h5 (nm a) (nm b) (h1 a ha) (h1 b hb) hne (fun z => hat (one a ha z))).1 a b ha hb rfl rfl had
  exact ⟨fewer h4 v1 hv0.2.1 (fun z => hv0.2.2.1 z.symm) hv0.2.2.2.symm, fun x hx => hx.con ht hC con, fun hno => NTS.con ht hC con hno⟩
end RoundG
def CS (σ τ : St) (V : Vy) : Prop := ∀ a b : Nat, (a : Int) < σ 14 0 51 → (b : Int) < σ 14 0 51 → (a = b → τ 92 0 (12 * a + b) = 1000000000) ∧ (a ≠ b → ∀ F, DIST V (fun s => ri σ s = (b : Int)) F → ∀ s, isSt V s → ri σ s = (a : Int) → τ 92 0 (12 * a + b) = F s / 4096)
def coP (c i j : Nat) : Prop := mkP c i j ∨ (c = 92 ∧ i = 0)
section MCosts
variable {σ : St} {Q : Res → St → Prop} {V : Vy}
theorem d_findCosts (hV : VOK V) (hT : MT σ V) (hR : MRP σ V) (hS : MRS σ V) (h12 : σ 14 0 51 ≤ 12) (h : ∀ τ, FR coP σ τ → CS σ τ V → Q (.inl none) τ) : WP mX13_findCosts 0 [vR 14 0, vU, vU] [] σ Q := by
  have hn0 := hS.1.2.2.2.2
  have er : ∀ τ, FR coP σ τ → ri τ = ri σ := fun τ f => by funext s; exact f 83 0 _ (fun z => by unfold coP mkP at z; omega)
  have e5 : ∀ τ, FR coP σ τ → τ 14 0 51 = σ 14 0 51 := fun τ f => f 14 0 51 (fun z => by unfold coP mkP at z; omega)
  have hT' : ∀ τ, FR coP σ τ → MT τ V := fun τ f => hT.fr f (fun c j hc z => by unfold coP mkP at z; omega)
  have hR' : ∀ τ, FR coP σ τ → MRP τ V := fun τ f => hR.fr f (fun c j hc z => by unfold coP mkP at z; omega)
  have hS' : ∀ τ, FR coP σ τ → MRS τ V := fun τ f => hS.fr f (fun c j hc z => by unfold coP mkP at z; omega)
  refine b_X13_findCosts_0 ?_
  have outer : ∀ m b : Nat, ((m + b : Nat) : Int) = σ 14 0 51 → ∀ τ, FR coP σ τ → (∀ a b' : Nat, (a : Int) < σ 14 0 51 → b' < b → (a = b' → τ 92 0 (12 * a + b') = 1000000000) ∧ (a ≠ b' → ∀ F, DIST V (fun s => ri σ s = (b' : Int)) F → ∀ s, isSt V s → ri σ s = (a : Int) → τ 92 0 (12 * a + b') = F s / 4096)) → WP mX13_findCosts 2 [vR 14 0, vI (b : Int), vU] [] τ Q := by
    intro m
    induction m with
    | zero =>
      intro b hb τ f1 hv
      refine b_X13_findCosts_2 ⟨fun _ => h τ f1 (fun a b' ha hb' => hv a b' ha (by omega)), fun z => by rw [e5 τ f1] at z; omega⟩
    | succ m ih =>
      intro b hb τ f1 hv
      obtain ⟨s0, s1, s2⟩ := hS.1.2.2.2.1 (b : Int) (by omega) (by omega)
      have e83 : ∀ x, τ 83 0 x = σ 83 0 x := fun x => f1 83 0 x (fun z => by unfold coP mkP at z; omega)
      refine b_X13_findCosts_2 ⟨fun z => by rw [e5 τ f1] at z; omega, fun _ => ?_⟩
      refine d_markRest hV (hT' τ f1) (hR' τ f1) s1.1 (by rw [e83]; exact s2) (fun υ u1 hD => ?_)
      have F1 : FR coP σ υ := f1.tr (u1.wk (fun c a b z => Or.inl z))
      have hD : DIST V (fun s => ri σ s = (b : Int)) (far υ) := hD.cg (fun s hs => by rw [e83]; exact Iff.rfl)
      have hle := hD.le hV s1.1 s2
      show WP mX13_findCosts 15 [vR 14 0, vI (b : Int), vU] [] υ Q
      refine b_X13_findCosts_15 ?_
      have inner : ∀ r a : Nat, ((r + a : Nat) : Int) = σ 14 0 51 → ∀ ω, FR coP σ ω → (∀ x, far ω x = far υ x) → (∀ a' b' : Nat, (a' : Int) < σ 14 0 51 → (b' < b ∨ (b' = b ∧ a' < a)) → (a' = b' → ω 92 0 (12 * a' + b') = 1000000000) ∧ (a' ≠ b' → ∀ F, DIST V (fun s => ri σ s = (b' : Int)) F → ∀ s, isSt V s → ri σ s = (a' : Int) → ω 92 0 (12 * a' + b') = F s / 4096)) → WP mX13_findCosts 17 [vR 14 0, vI (b : Int), vI (a : Int)] [] ω Q := by
        intro r
        induction r with
        | zero =>
          intro a ha ω o1 o2 o3
          exact b_X13_findCosts_17 ⟨fun _ => ⟨by unfold in32; omega, ih (b + 1) (by omega) ω o1 (fun a' b' ha' hb' => o3 a' b' ha' (by omega))⟩, fun z => by rw [e5 ω o1] at z; omega⟩
        | succ r ihr =>
          intro a ha ω o1 o2 o3
          obtain ⟨t0, t1, t2⟩ := hS.1.2.2.2.1 (a : Int) (by omega) (by omega)
          have put : ∀ y : Int, ((a = b → y = 1000000000) ∧ (a ≠ b → ∀ F, DIST V (fun s => ri σ s = (b : Int)) F → ∀ s, isSt V s → ri σ s = (a : Int) → y = F s / 4096)) → WP mX13_findCosts 51 [vR 14 0, vI (b : Int), vI (a : Int)] [vI y, vI ((12 * (a : Int)) + (b : Int)), vR 92 0] ω Q := fun y hy => by
            refine b_X13_findCosts_51 ⟨⟨by omega, by omega⟩, by unfold in32; omega, ?_⟩
            rw [show (12 * (a : Int) + (b : Int)).toNat = 12 * a + b by omega]
            refine ihr (a + 1) (by omega) _ (o1.u (Or.inr ⟨rfl, rfl⟩)) (fun x => by unfold far; rw [up_c (by omega)]; exact o2 x) (fun a' b' ha' hb' => ?_)
            by_cases e : a' = a ∧ b' = b
            · rw [e.1, e.2, up_s]; exact hy
            · rw [up_j (fun z => e (by omega))]
              exact o3 a' b' ha' (by omega)
          refine b_X13_findCosts_17 ⟨fun z => by rw [e5 ω o1] at z; omega, fun _ => ⟨by unfold in32; omega, by unfold in32; omega, fun hne => ?_, fun he => put _ ⟨fun _ => rfl, fun z => absurd (by omega) z⟩⟩⟩
          refine d_leastOf (F := far υ) (Tg := fun s => ri σ s = (b : Int)) hV (hT' ω o1) (hS' ω o1) (by omega) t1.1 (by rw [er ω o1]; exact t2) o2 hD hle ?_
          refine put _ ⟨fun z => absurd (by rw [z]) hne, fun _ G hG s hs hsa => ?_⟩
          rw [hD.uniq hV hG _ t1.1]
          exact hS.1.far hV hG (by omega) t1.1 hs t2 hsa
      exact inner (σ 14 0 51).toNat 0 (by omega) υ F1 (fun _ => rfl) (fun a' b' ha' hb' => by
        rw [u1 92 0 _ (fun z => by unfold mkP at z; omega)]
        exact hv a' b' ha' (by omega))
  exact outer (σ 14 0 51).toNat 0 (by omega) σ FR.rf (fun a b' _ hb' => by omega)
end MCosts
