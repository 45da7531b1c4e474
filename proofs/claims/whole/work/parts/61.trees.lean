/-! ===== the class' Trees: chooseCheapest, drawTogether ===== -/
def Wn (τ : St) (a b : Nat) : Int := τ 49 0 (a * 12 + b)
def cN (τ : St) (a : Nat) : Nat := (τ 51 0 a).toNat
def nN (τ : St) (a : Nat) : Nat := (τ 53 0 a).toNat
section Trees
variable {σ : St} {Q : Res → St → Prop} {n top : Nat}
theorem W_eq {τ : St} {x y : Int} {a b : Nat} (hx : x = a) (hy : y = b) : τ 49 0 ((x * 12 + y).toNat) = Wn τ a b := by
  unfold Wn
  congr 1
  omega
theorem c_chooseCheapest (hn : n ≤ 12) (ht : top < n) (hw : ∀ a b, a < n → b < n → a ≠ b → 0 ≤ Wn σ a b ∧ Wn σ a b ≤ 1000000) (h : ∀ τ, FR (fun c i _ => c = 51 ∧ i = 0) σ τ → (∀ a, a < n → a ≠ top → τ 51 0 a = (cN τ a : Nat)) → τ 51 0 top = -1 → CHP n top (fun _ _ => True) (Wn σ) (cN τ) → (0 ≤ ts n top (Wn σ) (cN τ) ∧ ts n top (Wn σ) (cN τ) ≤ n * 1000000) → Q (.inl (some (vI (ts n top (Wn σ) (cN τ))))) τ) : WP mX8_chooseCheapest 0 [vR 9 0, vI (n : Int), vI (top : Int), vU, vU, vU] [] σ Q := by
  have eW : ∀ τ : St, FR (fun c i _ => c = 51 ∧ i = 0) σ τ → ∀ a b, Wn τ a b = Wn σ a b := fun τ f a b => f 49 0 _ (fun z => by omega)
  refine b_X8_chooseCheapest_0 ?_
  have key : ∀ m a : Nat, m + a = n → ∀ (τ : St) (x : Int), FR (fun c i _ => c = 51 ∧ i = 0) σ τ → (∀ v, v < a → (v = top → τ 51 0 v = -1) ∧ (v ≠ top → τ 51 0 v = (cN τ v : Nat) ∧ cN τ v < n ∧ cN τ v ≠ v ∧ ∀ u, u < n → u ≠ v → Wn σ v (cN τ v) ≤ Wn σ v u)) → x = sm (fun v => if v = top then 0 else Wn σ v (cN τ v)) a → WP mX8_chooseCheapest 5 [vR 9 0, vI (n : Int), vI (top : Int), vI x, vI (a : Int), vU] [] τ Q := by
    intro m
    have bds : ∀ (τ : St) (a : Nat), a ≤ n → (∀ v, v < a → (v ≠ top → cN τ v < n ∧ cN τ v ≠ v)) → 0 ≤ sm (fun v => if v = top then 0 else Wn σ v (cN τ v)) a ∧ sm (fun v => if v = top then 0 else Wn σ v (cN τ v)) a ≤ a * 1000000 := fun τ a ha hv => sm_bd (by omega) (fun v hva => by
      show 0 ≤ (if v = top then 0 else Wn σ v (cN τ v)) ∧ (if v = top then 0 else Wn σ v (cN τ v)) ≤ 1000000
      by_cases e : v = top
      · rw [if_pos e]; omega
      · rw [if_neg e]
        have := hv v hva e
        exact hw v _ (by omega) this.1 (fun z => this.2 z.symm))
    induction m with
    | zero =>
      intro a ha τ x f1 hv hx
      have han : a = n := by omega
      subst han
      have hb := bds τ a (Nat.le_refl _) (fun v hva hn' => ⟨((hv v hva).2 hn').2.1, ((hv v hva).2 hn').2.2.1⟩)
      refine b_X8_chooseCheapest_5 ⟨fun _ => ?_, fun z => by omega⟩
      rw [hx]
      exact h τ f1 (fun v hva hn' => ((hv v hva).2 hn').1) ((hv top ht).1 rfl) (fun v hva hn' => by
        have := (hv v hva).2 hn'
        exact ⟨this.2.1, this.2.2.1, trivial, fun u hu hne _ => this.2.2.2 u hu hne⟩) hb
    | succ m ih =>
      intro a ha τ x f1 hv hx
      have hb := bds τ a (by omega) (fun v hva hn' => ⟨((hv v hva).2 hn').2.1, ((hv v hva).2 hn').2.2.1⟩)
      rw [← hx] at hb
      -- the end of a row
      have fin : ∀ υ : St, FR (fun c i _ => c = 51 ∧ i = 0) σ υ → (∀ v, v < a → υ 51 0 v = τ 51 0 v) → ((a = top ∧ υ 51 0 a = -1) ∨ (a ≠ top ∧ ∃ c : Nat, υ 51 0 a = c ∧ c < n ∧ c ≠ a ∧ ∀ u, u < n → u ≠ a → Wn σ a c ≤ Wn σ a u)) → WP mX8_chooseCheapest 91 [vR 9 0, vI (n : Int), vI (top : Int), vI x, vI (a : Int), vU] [] υ Q := fun υ g1 g2 g3 => by
        have ec : ∀ v, v < a → cN υ v = cN τ v := fun v hva => by unfold cN; rw [g2 v hva]
        have sx : sm (fun v => if v = top then 0 else Wn σ v (cN υ v)) a = x := by
          rw [hx]
          exact sm_congr (fun v hva => by rw [ec v hva])
        have nxt : ∀ y : Int, y = x + (if a = top then 0 else Wn σ a (cN υ a)) → in32 ((a : Int) + 1) ∧ WP mX8_chooseCheapest 5 [vR 9 0, vI (n : Int), vI (top : Int), vI y, vI ((a : Int) + 1), vU] [] υ Q := fun y hy => ⟨by unfold in32; omega, ih (a + 1) (by omega) υ y g1 (fun v hva => by
          by_cases e : v = a
          · rw [e]
            refine ⟨fun z => ?_, fun z => ?_⟩
            · rcases g3 with q | q
              · exact q.2
              · exact absurd z q.1
            · obtain ⟨c, c1, c2, c3, c4⟩ := (g3.resolve_left (fun q => z q.1)).2
              have : cN υ a = c := by unfold cN; rw [c1]; rfl
              rw [this]; exact ⟨c1, c2, c3, c4⟩
          · have := hv v (by omega)
            rw [g2 v (by omega), ec v (by omega)]; exact this) (by rw [sm, sx]; exact hy)⟩
        refine b_X8_chooseCheapest_91 ?_
        rw [Int.toNat_natCast]
        rcases g3 with ⟨q1, q2⟩ | ⟨q1, c, c1, c2, c3, c4⟩
        · rw [q2]
          exact ⟨⟨by omega, by omega⟩, fun z => absurd rfl z, fun _ => ⟨by unfold in32; omega, nxt _ (by rw [if_pos q1])⟩⟩
        · have hcn : cN υ a = c := by unfold cN; rw [c1]; rfl
          have hww := hw a c (by omega) c2 (fun z => c3 z.symm)
          rw [c1, W_eq (τ := υ) (a := a) (b := c) rfl rfl, eW υ g1]
          exact ⟨⟨by omega, by omega⟩, fun _ => ⟨⟨by omega, by omega⟩, ⟨by unfold in32; omega, by unfold in32; omega, by omega, by omega⟩, by unfold in32; omega, nxt _ (by rw [if_neg q1, hcn])⟩, fun z => by omega⟩
      refine b_X8_chooseCheapest_5 ⟨fun z => by omega, fun _ => ⟨⟨by omega, by omega⟩, ?_⟩⟩
      rw [Int.toNat_natCast]
      have row : ∀ k b : Nat, k + b = n → ∀ υ : St, FR (fun c i _ => c = 51 ∧ i = 0) σ υ → (∀ v, v < a → υ 51 0 v = τ 51 0 v) → ((υ 51 0 a = -1 ∧ ∀ u, u < b → a ≠ top → u = a) ∨ (a ≠ top ∧ ∃ c : Nat, υ 51 0 a = c ∧ c < b ∧ c ≠ a ∧ ∀ u, u < b → u ≠ a → Wn σ a c ≤ Wn σ a u)) → WP mX8_chooseCheapest 22 [vR 9 0, vI (n : Int), vI (top : Int), vI x, vI (a : Int), vI (b : Int)] [] υ Q := by
        intro k
        induction k with
        | zero =>
          intro b hb' υ g1 g2 g3
          have hbn : b = n := by omega
          subst hbn
          refine b_X8_chooseCheapest_22 ⟨fun _ => fin υ g1 g2 ?_, fun z => by omega⟩
          rcases g3 with ⟨q1, q2⟩ | q
          · by_cases e : a = top
            · exact Or.inl ⟨e, q1⟩
            · exfalso
              exact e (q2 top ht e).symm
          · exact Or.inr q
        | succ k ihk =>
          intro b hb' υ g1 g2 g3
          by_cases eat : a = top
          · refine b_X8_chooseCheapest_22 ⟨fun z => by omega, fun _ => ⟨fun _ => fin υ g1 g2 (Or.inl ⟨eat, ?_⟩), fun z => by omega⟩⟩
            rcases g3 with q | q
            · exact q.1
            · exact absurd eat q.1
          · have take : (∀ u, u < b → u ≠ a → b ≠ a → Wn σ a b ≤ Wn σ a u) → b ≠ a → in32 ((b : Int) + 1) ∧ WP mX8_chooseCheapest 22 [vR 9 0, vI (n : Int), vI (top : Int), vI x, vI (a : Int), vI ((b : Int) + 1)] [] (up υ 51 0 a (b : Int)) Q := fun hle hba => ⟨by unfold in32; omega, ihk (b + 1) (by omega) _ (g1.u ⟨rfl, rfl⟩) (fun v hva => by rw [up_j (by omega)]; exact g2 v hva) (Or.inr ⟨eat, b, up_s _ _ _ _ _, by omega, hba, fun u hu hne => by
              by_cases e : u = b
              · rw [e]; omega
              · exact hle u (by omega) hne hba⟩)⟩
            refine b_X8_chooseCheapest_22 ?_
            rw [Int.toNat_natCast]
            refine ⟨fun z => by omega, fun _ => ⟨fun z => by omega, fun _ => ⟨fun hba => ⟨by unfold in32; omega, ihk (b + 1) (by omega) υ g1 g2 ?_⟩, fun hba => ⟨⟨by omega, by omega⟩, fun hm1 => ⟨⟨by omega, by omega⟩, ?_⟩, fun hm1 => ?_⟩⟩⟩⟩
            · rcases g3 with ⟨q1, q2⟩ | ⟨q1, c, c1, c2, c3, c4⟩
              · refine Or.inl ⟨q1, fun u hu hz => ?_⟩
                by_cases e : u = b
                · omega
                · exact q2 u (by omega) hz
              · refine Or.inr ⟨q1, c, c1, by omega, c3, fun u hu hne => ?_⟩
                exact c4 u (by omega) hne
            · rcases g3 with ⟨q1, q2⟩ | ⟨q1, c, c1, c2, c3, c4⟩
              · exact take (fun u hu hne _ => absurd (q2 u hu eat) hne) (by omega)
              · omega
            · obtain ⟨q1, c, c1, c2, c3, c4⟩ := g3.resolve_left (fun q => hm1 q.1)
              rw [c1, W_eq (τ := υ) (a := a) (b := c) rfl rfl, W_eq (τ := υ) (a := a) (b := b) rfl rfl, eW υ g1, eW υ g1]
              refine ⟨⟨by unfold in32; omega, by unfold in32; omega, by omega, by omega⟩, ⟨by omega, by omega⟩, ⟨by unfold in32; omega, by unfold in32; omega, by omega, by omega⟩, fun hle => ⟨by unfold in32; omega, ihk (b + 1) (by omega) υ g1 g2 (Or.inr ⟨q1, c, c1, by omega, c3, fun u hu hne => ?_⟩)⟩, fun hlt => ⟨⟨by omega, by omega⟩, take (fun u hu hne _ => ?_) (by omega)⟩⟩
              · by_cases e : u = b
                · rw [e]; exact hle
                · exact c4 u (by omega) hne
              · have := c4 u hu hne; omega
      refine row n 0 (by omega) _ (f1.u ⟨rfl, rfl⟩) (fun v hva => up_j (by omega)) (Or.inl ⟨up_s _ _ _ _ _, fun u hu => by omega⟩)
  exact key n 0 (by omega) σ 0 FR.rf (fun v hv => by omega) rfl
end Trees
