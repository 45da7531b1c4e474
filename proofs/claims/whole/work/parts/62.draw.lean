/-! ===== the class' Trees: drawTogether, nameOthers ===== -/
section Draw
variable {σ : St} {Q : Res → St → Prop} {n n' top : Nat}
def pdW (σ : St) (top a : Nat) : Int := if a = top then 0 else Wn σ a (cN σ a)
def SS (n a0 b0 a b : Nat) : Prop := a < n ∧ b < n ∧ (a < a0 ∨ (a = a0 ∧ b < b0))
def DT (σ : St) (n n' top : Nat) (S : Nat → Nat → Prop) (t : Nat → Int) : Prop := ∀ A B, A < n' → B < n' → A ≠ B → (∀ a b, S a b → nN σ a = A → nN σ b = B → t (A * 12 + B) ≤ Wn σ a b - pdW σ top a) ∧ (t (A * 12 + B) = 1000000 ∨ ∃ a b, S a b ∧ nN σ a = A ∧ nN σ b = B ∧ t (A * 12 + B) = Wn σ a b - pdW σ top a)
theorem c_draw (hn : n ≤ 12) (hn' : n' ≤ 12) (hnm : ∀ a, a < n → σ 53 0 a = (nN σ a : Nat) ∧ nN σ a < n') (hc : ∀ a, a < n → a ≠ top → σ 51 0 a = (cN σ a : Nat) ∧ cN σ a < n ∧ cN σ a ≠ a) (hw : ∀ a b, a < n → b < n → a ≠ b → 0 ≤ Wn σ a b ∧ Wn σ a b ≤ 1000000) (hpd : ∀ a b, a < n → b < n → a ≠ b → 0 ≤ Wn σ a b - pdW σ top a ∧ Wn σ a b - pdW σ top a ≤ 1000000) (hon : ∀ A, A < n' → ∃ a, a < n ∧ nN σ a = A) (h : ∀ τ, FR (fun c i _ => (c = 49 ∨ c = 50) ∧ i = 0) σ τ → (∀ A B, A < n' → B < n' → A ≠ B → (∀ a b, a < n → b < n → nN σ a = A → nN σ b = B → Wn τ A B ≤ Wn σ a b - pdW σ top a) ∧ ∃ a b, a < n ∧ b < n ∧ nN σ a = A ∧ nN σ b = B ∧ Wn τ A B = Wn σ a b - pdW σ top a) → Q (.inl none) τ) : WP mX8_drawTogether 0 [vR 9 0, vI (n : Int), vI (n' : Int), vI (top : Int), vU, vU, vU, vU] [] σ Q := by
  have e49 : ∀ τ : St, FR (fun c i _ => c = 50 ∧ i = 0) σ τ → ∀ a b, Wn τ a b = Wn σ a b := fun τ f a b => f 49 0 _ (fun z => by omega)
  have e51 : ∀ τ : St, FR (fun c i _ => c = 50 ∧ i = 0) σ τ → ∀ a, τ 51 0 a = σ 51 0 a := fun τ f a => f 51 0 _ (fun z => by omega)
  have e53 : ∀ τ : St, FR (fun c i _ => c = 50 ∧ i = 0) σ τ → ∀ a, τ 53 0 a = σ 53 0 a := fun τ f a => f 53 0 _ (fun z => by omega)
  have pb : ∀ a, a < n → 0 ≤ pdW σ top a ∧ pdW σ top a ≤ 1000000 := fun a ha => by
    unfold pdW
    by_cases e : a = top
    · rw [if_pos e]; omega
    · rw [if_neg e]
      have := hc a ha e
      exact hw a _ ha this.2.1 (fun z => this.2.2 z.symm)
  have outer : ∀ m a : Nat, m + a = n → ∀ τ : St, FR (fun c i _ => c = 50 ∧ i = 0) σ τ → DT σ n n' top (SS n a 0) (τ 50 0) → WP mX8_drawTogether 12 [vR 9 0, vI (n : Int), vI (n' : Int), vI (top : Int), vI (a : Int), vU, vU, vU] [] τ Q := by
    intro m
    induction m with
    | zero =>
      intro a ha τ f1 hD
      have han : a = n := by omega
      subst han
      refine b_X8_drawTogether_12 ⟨fun _ => ⟨by unfold in32; omega, ⟨by omega, by omega, by omega⟩, h _ ?_ (fun A B hA hB hAB => ?_)⟩, fun z => by omega⟩
      · exact (f1.wk (fun c i j z => ⟨Or.inr z.1, z.2⟩)).uR (fun k _ _ => ⟨Or.inl rfl, rfl⟩)
      · have ev : Wn (upR τ 49 0 0 (((n' : Int) * 12).toNat) (fun k9 => τ 50 0 (0 + k9))) A B = τ 50 0 (A * 12 + B) := by
          unfold Wn upR
          rw [if_pos ⟨rfl, rfl, by omega, by omega⟩]
          show τ 50 0 (0 + (A * 12 + B - 0)) = τ 50 0 (A * 12 + B)
          rw [show 0 + (A * 12 + B - 0) = A * 12 + B by omega]
        rw [ev]
        obtain ⟨d1, d2⟩ := hD A B hA hB hAB
        have hall : ∀ u b, u < a → b < a → SS a a 0 u b := fun u b hu hb => ⟨hu, hb, Or.inl hu⟩
        refine ⟨fun u b hu hb h1 h2 => d1 u b (hall u b hu hb) h1 h2, ?_⟩
        rcases d2 with z | ⟨u, b, s, s1, s2, s3⟩
        · obtain ⟨u, u1, u2⟩ := hon A hA
          obtain ⟨b, b1, b2⟩ := hon B hB
          have := d1 u b (hall u b u1 b1) u2 b2
          have hne : u ≠ b := fun q => hAB (by rw [← u2, ← b2, q])
          have := hpd u b u1 b1 hne
          exact ⟨u, b, u1, b1, u2, b2, by omega⟩
        · exact ⟨u, b, s.1, s.2.1, s1, s2, s3⟩
    | succ m ih =>
      intro a ha τ f1 hD
      have hpa := pb a (by omega)
      have hna := hnm a (by omega)
      have inner : ∀ k b : Nat, k + b = n → ∀ υ : St, FR (fun c i _ => c = 50 ∧ i = 0) σ υ → DT σ n n' top (SS n a b) (υ 50 0) → WP mX8_drawTogether 57 [vR 9 0, vI (n : Int), vI (n' : Int), vI (top : Int), vI (a : Int), vI (pdW σ top a), vI (b : Int), vU] [] υ Q := by
        intro k
        induction k with
        | zero =>
          intro b hb υ g1 gD
          refine b_X8_drawTogether_57 ⟨fun _ => ⟨by unfold in32; omega, ih (a + 1) (by omega) υ g1 (fun A B hA hB hAB => ?_)⟩, fun z => by omega⟩
          obtain ⟨d1, d2⟩ := gD A B hA hB hAB
          refine ⟨fun u v s => d1 u v ⟨s.1, s.2.1, ?_⟩, ?_⟩
          · have := s.2.2; have := s.2.1; omega
          · rcases d2 with z | ⟨u, v, s, s1⟩
            · exact Or.inl z
            · exact Or.inr ⟨u, v, ⟨s.1, s.2.1, by have := s.2.2; omega⟩, s1⟩
        | succ k ihk =>
          intro b hb υ g1 gD
          have hnb := hnm b (by omega)
          refine b_X8_drawTogether_57 ?_
          simp only [Int.toNat_natCast]
          rw [e53 υ g1, e53 υ g1, hna.1, hnb.1, W_eq (τ := υ) (a := a) (b := b) rfl rfl, e49 υ g1, show (((nN σ a : Nat) : Int) * 12 + ((nN σ b : Nat) : Int)).toNat = nN σ a * 12 + nN σ b by omega]
          refine ⟨fun z => by omega, fun _ => ⟨⟨by omega, by omega⟩, ⟨by omega, by omega⟩, fun he => ⟨by unfold in32; omega, ihk (b + 1) (by omega) υ g1 (fun A B hA hB hAB => ?_)⟩, fun hne => ?_⟩⟩
          · obtain ⟨d1, d2⟩ := gD A B hA hB hAB
            refine ⟨fun u v s s1 s2 => ?_, ?_⟩
            · by_cases q : u = a ∧ v = b
              · rw [q.1] at s1
                rw [q.2] at s2
                omega
              · exact d1 u v ⟨s.1, s.2.1, by have := s.2.2; omega⟩ s1 s2
            · rcases d2 with z | ⟨u, v, s, s1⟩
              · exact Or.inl z
              · exact Or.inr ⟨u, v, ⟨s.1, s.2.1, by have := s.2.2; omega⟩, s1⟩
          · have hab' : a ≠ b := fun z => hne (by rw [z])
            have hwb := hw a b (by omega) (by omega) hab'
            have hpb := hpd a b (by omega) (by omega) hab'
            refine ⟨⟨by omega, by omega⟩, by unfold in32; omega, ⟨by omega, by omega⟩, by unfold in32; omega, ⟨by omega, by omega⟩, ⟨by unfold in32; omega, by unfold in32; omega, by omega, by omega⟩, by unfold in32; omega, ⟨by omega, by omega⟩, by unfold in32; omega, ?_⟩
            refine ihk (b + 1) (by omega) _ (g1.u ⟨rfl, rfl⟩) (fun A B hA hB hAB => ?_)
            obtain ⟨d1, d2⟩ := gD A B hA hB hAB
            by_cases q : A = nN σ a ∧ B = nN σ b
            · obtain ⟨q1, q2⟩ := q
              subst q1 q2
              rw [up_s]
              refine ⟨fun u v s s1 s2 => ?_, ?_⟩
              · by_cases q : u = a ∧ v = b
                · rw [q.1, q.2]; omega
                · have := d1 u v ⟨s.1, s.2.1, by have := s.2.2; omega⟩ s1 s2
                  omega
              · by_cases z : υ 50 0 (nN σ a * 12 + nN σ b) ≤ Wn σ a b - pdW σ top a
                · rw [show min (υ 50 0 (nN σ a * 12 + nN σ b)) (Wn σ a b - pdW σ top a) = υ 50 0 (nN σ a * 12 + nN σ b) by omega]
                  rcases d2 with z | ⟨u, v, s, s1⟩
                  · exact Or.inl z
                  · exact Or.inr ⟨u, v, ⟨s.1, s.2.1, by have := s.2.2; omega⟩, s1⟩
                · exact Or.inr ⟨a, b, ⟨by omega, by omega, by omega⟩, rfl, rfl, by omega⟩
            · rw [up_j (fun z => q (by omega))]
              refine ⟨fun u v s s1 s2 => ?_, ?_⟩
              · by_cases q' : u = a ∧ v = b
                · exfalso
                  rw [q'.1] at s1
                  rw [q'.2] at s2
                  exact q ⟨s1.symm, s2.symm⟩
                · exact d1 u v ⟨s.1, s.2.1, by have := s.2.2; omega⟩ s1 s2
              · rcases d2 with z | ⟨u, v, s, s1⟩
                · exact Or.inl z
                · exact Or.inr ⟨u, v, ⟨s.1, s.2.1, by have := s.2.2; omega⟩, s1⟩
      have start := inner n 0 (by omega) τ f1 hD
      refine b_X8_drawTogether_12 ?_
      rw [Int.toNat_natCast, e51 τ f1]
      refine ⟨fun z => by omega, fun _ => ⟨fun he => ?_, fun hne => ?_⟩⟩
      · have ep : pdW σ top a = 0 := by unfold pdW; rw [if_pos (by omega)]
        rw [ep] at start; exact start
      · have hca := hc a (by omega) (by omega)
        have ep : pdW σ top a = Wn σ a (cN σ a) := by unfold pdW; rw [if_neg (by omega)]
        rw [hca.1, W_eq (τ := τ) (a := a) (b := cN σ a) rfl rfl, e49 τ f1, ← ep]
        exact ⟨⟨by omega, by omega⟩, fun _ => ⟨⟨by omega, by omega⟩, ⟨by unfold in32; omega, by unfold in32; omega, by omega, by omega⟩, start⟩, fun z => by omega⟩
  refine b_X8_drawTogether_0 (c_fill (by omega) rfl rfl (by omega) rfl ?_)
  show WP mX8_drawTogether 9 [vR 9 0, vI (n : Int), vI (n' : Int), vI (top : Int), vU, vU, vU, vU] [] _ Q
  refine b_X8_drawTogether_9 (outer n 0 (by omega) _ (FR.rf.uR (fun k _ _ => ⟨rfl, rfl⟩)) (fun A B hA hB hAB => ⟨fun a b s => by have := s.2.2; omega, Or.inl ?_⟩))
  unfold upR
  rw [if_pos ⟨rfl, rfl, by omega, by show A * 12 + B < 0 + 144; omega⟩]
/-- those in no ring get the names behind the rings' -/
theorem c_nameOthers {k : Nat} (hn : n ≤ 12) (hk : k ≤ 12) (hnm : ∀ a, a < n → σ 53 0 a = -1 ∨ ∃ i : Nat, i < k ∧ σ 53 0 a = i) (hon : ∀ i, i < k → ∃ a, a < n ∧ σ 53 0 a = (i : Nat)) (h : ∀ τ (n' : Nat), FR (fun c i _ => c = 53 ∧ i = 0) σ τ → n' ≤ k + n → (∀ a, a < n → τ 53 0 a = (nN τ a : Nat) ∧ nN τ a < n') → (∀ a, a < n → σ 53 0 a ≠ -1 → τ 53 0 a = σ 53 0 a) → (∀ a b, a < n → b < n → σ 53 0 a = -1 → nN τ a = nN τ b → a = b) → (∀ A, A < n' → ∃ a, a < n ∧ nN τ a = A) → Q (.inl (some (vI (n' : Int)))) τ) : WP mX8_nameOthers 0 [vR 9 0, vI (n : Int), vI (k : Int), vU, vU] [] σ Q := by
  refine b_X8_nameOthers_0 ?_
  have key : ∀ m a : Nat, m + a = n → ∀ (τ : St) (x : Nat), FR (fun c i _ => c = 53 ∧ i = 0) σ τ → k ≤ x → x ≤ k + a → (∀ v, v < n → a ≤ v → τ 53 0 v = σ 53 0 v) → (∀ v, v < a → σ 53 0 v ≠ -1 → τ 53 0 v = σ 53 0 v) → (∀ v, v < a → σ 53 0 v = -1 → ∃ i : Nat, k ≤ i ∧ i < x ∧ τ 53 0 v = i ∧ ∀ u, u < v → τ 53 0 u ≠ (i : Nat)) → (∀ i, k ≤ i → i < x → ∃ v, v < a ∧ τ 53 0 v = (i : Nat)) → WP mX8_nameOthers 5 [vR 9 0, vI (n : Int), vU, vI (x : Int), vI (a : Int)] [] τ Q := by
    intro m
    induction m with
    | zero =>
      intro a ha τ x f1 hx1 hx2 t0 t1 t2 t3
      have han : a = n := by omega
      subst han
      have hv : ∀ v, v < a → ∃ i : Nat, τ 53 0 v = i ∧ i < x := fun v hva => by
        rcases hnm v hva with z | ⟨i, i1, i2⟩
        · obtain ⟨i, q1, q2, q3, _⟩ := t2 v hva z
          exact ⟨i, q3, q2⟩
        · exact ⟨i, by rw [t1 v hva (by omega)]; exact i2, by omega⟩
      have hN : ∀ v, v < a → τ 53 0 v = (nN τ v : Nat) ∧ nN τ v < x := fun v hva => by
        obtain ⟨i, i1, i2⟩ := hv v hva
        have : nN τ v = i := by unfold nN; rw [i1]; rfl
        rw [this]; exact ⟨i1, i2⟩
      refine b_X8_nameOthers_5 ⟨fun _ => h τ x f1 hx2 hN (fun v hva hne => t1 v hva hne) (fun u v hu hv' hm he => ?_) (fun A hA => ?_), fun z => by omega⟩
      · have e1 := (hN u hu).1
        have e2 := (hN v hv').1
        rw [he] at e1
        obtain ⟨i, i1, i2, i3, i4⟩ := t2 u hu hm
        rcases Nat.lt_trichotomy u v with z | z | z
        · exfalso
          rcases hnm v hv' with w | ⟨i', w1, w2⟩
          · obtain ⟨i', j1, j2, j3, j4⟩ := t2 v hv' w
            exact j4 u z (by omega)
          · rw [← t1 v hv' (by omega)] at w2
            omega
        · exact z
        · exact absurd (by omega) (i4 v z)
      · by_cases c : A < k
        · obtain ⟨v, v1, v2⟩ := hon A c
          refine ⟨v, v1, ?_⟩
          have := t1 v v1 (by omega)
          unfold nN
          rw [this, v2]; rfl
        · obtain ⟨v, v1, v2⟩ := t3 A (by omega) hA
          refine ⟨v, v1, ?_⟩
          unfold nN
          rw [v2]; rfl
    | succ m ih =>
      intro a ha τ x f1 hx1 hx2 t0 t1 t2 t3
      have ea := t0 a (by omega) (Nat.le_refl _)
      refine b_X8_nameOthers_5 ?_
      rw [Int.toNat_natCast, ea]
      refine ⟨fun z => by omega, fun _ => ⟨⟨by omega, by omega⟩, fun hne => ⟨by unfold in32; omega, ih (a + 1) (by omega) τ x f1 hx1 (by omega) (fun v hv hav => t0 v hv (by omega)) (fun v hv hm => ?_) (fun v hv hm => ?_) (fun i i1 i2 => ?_)⟩, fun he => ⟨⟨by omega, by omega⟩, by unfold in32; omega, by unfold in32; omega, ?_⟩⟩⟩
      · by_cases e : v = a
        · rw [e]; exact ea
        · exact t1 v (by omega) hm
      · by_cases e : v = a
        · rw [e] at hm; exact absurd hm hne
        · exact t2 v (by omega) hm
      · obtain ⟨v, v1, v2⟩ := t3 i i1 i2
        exact ⟨v, by omega, v2⟩
      · rw [show ((x : Int) + 1) = ((x + 1 : Nat) : Int) by push_cast; rfl, show ((a : Int) + 1) = ((a + 1 : Nat) : Int) by push_cast; rfl]
        refine ih (a + 1) (by omega) _ (x + 1) (f1.u ⟨rfl, rfl⟩) (by omega) (by omega) (fun v hv hav => by rw [up_j (by omega)]; exact t0 v hv (by omega)) (fun v hv hm => ?_) (fun v hv hm => ?_) (fun i i1 i2 => ?_)
        · by_cases e : v = a
          · rw [e] at hm; exact absurd he hm
          · rw [up_j e]; exact t1 v (by omega) hm
        · by_cases e : v = a
          · refine ⟨x, hx1, by omega, by rw [e, up_s], fun u hu => ?_⟩
            rw [up_j (by omega)]
            intro z
            by_cases w : σ 53 0 u = -1
            · obtain ⟨i, q1, q2, q3, _⟩ := t2 u (by omega) w
              omega
            · rcases hnm u (by omega) with w' | ⟨i', w1, w2⟩
              · exact w w'
              · rw [t1 u (by omega) w] at z; omega
          · obtain ⟨i, q1, q2, q3, q4⟩ := t2 v (by omega) hm
            exact ⟨i, q1, by omega, by rw [up_j e]; exact q3, fun u hu => by rw [up_j (by omega)]; exact q4 u hu⟩
        · by_cases e : i = x
          · exact ⟨a, by omega, by rw [up_s, e]⟩
          · obtain ⟨v, v1, v2⟩ := t3 i i1 (by omega)
            exact ⟨v, by omega, by rw [up_j (by omega)]; exact v2⟩
  exact key n 0 (by omega) σ k FR.rf (Nat.le_refl _) (by omega) (fun v _ _ => rfl) (fun v hv => by omega) (fun v hv => by omega) (fun i i1 i2 => by omega)
end Draw
