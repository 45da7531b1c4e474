/-! ===== the model's drawn ===== -/
def Wm (τ : St) (a b : Nat) : Int := τ 94 0 (12 * a + b)
def lsM (σ : St) (k a : Nat) : Int := if rN σ a < k then Wm σ a (gN σ a) else 0
def DM (σ : St) (n n' k top : Nat) (S : Nat → Nat → Prop) (t : Nat → Int) : Prop := (∀ A B, A < n' → B < n' → A ≠ B → (∀ a b, S a b → a ≠ top → rN σ a = A → rN σ b = B → Wm σ a b < 1000000000 → t (12 * A + B) ≤ Wm σ a b - lsM σ k a) ∧ (t (12 * A + B) = 1000000000 ∨ ∃ a b, S a b ∧ a ≠ top ∧ rN σ a = A ∧ rN σ b = B ∧ Wm σ a b < 1000000000 ∧ t (12 * A + B) = Wm σ a b - lsM σ k a)) ∧ ∀ A, A < n' → t (12 * A + A) = 1000000000
section Drawn
variable {σ : St} {Q : Res → St → Prop} {n n' k top : Nat}
theorem Wm_eq {τ : St} {x y : Int} {a b : Nat} (hx : x = a) (hy : y = b) : τ 94 0 ((12 * x + y).toNat) = Wm τ a b := by
  unfold Wm
  congr 1
  omega
theorem d_drawn (hn : n ≤ 12) (hn' : n' ≤ 12) (h65 : σ 14 0 65 = (n' : Nat)) (hnm : ∀ a, a < n → σ 96 0 a = (rN σ a : Nat) ∧ rN σ a < n') (hc : ∀ a, a < n → a ≠ top → σ 95 0 a = (gN σ a : Nat) ∧ gN σ a < n ∧ gN σ a ≠ a ∧ Wm σ a (gN σ a) < 1000000000) (hw : ∀ a b, a < n → b < n → a ≠ b → 0 ≤ Wm σ a b ∧ Wm σ a b ≤ 1000000000) (hmin : ∀ a b, a < n → b < n → a ≠ top → a ≠ b → Wm σ a (gN σ a) ≤ Wm σ a b) (hsg : ∀ a b, a < n → b < n → k ≤ rN σ a → rN σ a = rN σ b → a = b) (h : ∀ τ, FR (fun c i _ => (c = 94 ∨ c = 98) ∧ i = 0) σ τ → (∀ A B, A < n' → B < n' → A ≠ B → (0 ≤ Wm τ A B ∧ Wm τ A B ≤ 1000000000) ∧ (A ≠ rN σ top → (∀ a b, a < n → b < n → rN σ a = A → rN σ b = B → Wm σ a b < 1000000000 → Wm τ A B < 1000000000 ∧ Wm τ A B ≤ Wm σ a b - Wm σ a (gN σ a)) ∧ (Wm τ A B < 1000000000 → ∃ a b, a < n ∧ b < n ∧ rN σ a = A ∧ rN σ b = B ∧ Wm σ a b < 1000000000 ∧ Wm τ A B = Wm σ a b - Wm σ a (gN σ a)))) → Q (.inl (some (vI (n' : Int)))) τ) : WP mX13_drawn 0 [vR 14 0, vI (n : Int), vI (top : Int), vI (k : Int), vU, vU, vU, vU] [] σ Q := by
  have e94 : ∀ τ : St, FR (fun c i _ => c = 98 ∧ i = 0) σ τ → ∀ a b, Wm τ a b = Wm σ a b := fun τ f a b => f 94 0 _ (fun z => by omega)
  have e95 : ∀ τ : St, FR (fun c i _ => c = 98 ∧ i = 0) σ τ → ∀ a, τ 95 0 a = σ 95 0 a := fun τ f a => f 95 0 _ (fun z => by omega)
  have e96 : ∀ τ : St, FR (fun c i _ => c = 98 ∧ i = 0) σ τ → ∀ a, τ 96 0 a = σ 96 0 a := fun τ f a => f 96 0 _ (fun z => by omega)
  have e65 : ∀ τ : St, FR (fun c i _ => c = 98 ∧ i = 0) σ τ → τ 14 0 65 = (n' : Nat) := fun τ f => by rw [f 14 0 65 (fun z => by omega)]; exact h65
  have pdb : ∀ a, a < n → a ≠ top → 0 ≤ Wm σ a (gN σ a) ∧ Wm σ a (gN σ a) < 1000000000 := fun a ha hne => by
    have := hc a ha hne
    exact ⟨(hw a _ ha this.2.1 (fun z => this.2.2.1 z.symm)).1, this.2.2.2⟩
  have lsb : ∀ a, a < n → a ≠ top → 0 ≤ lsM σ k a ∧ lsM σ k a ≤ Wm σ a (gN σ a) := fun a ha hne => by
    have := pdb a ha hne
    unfold lsM
    split <;> omega
  -- phase 3
  have copy : ∀ m x : Nat, m + x = 144 → ∀ (τ0 τ : St), (τ0 14 0 65 = (n' : Nat)) → FR (fun c i _ => c = 94 ∧ i = 0) τ0 τ → (∀ y, y < x → τ 94 0 y = τ0 98 0 y) → (∀ υ, FR (fun c i _ => c = 94 ∧ i = 0) τ0 υ → (∀ y, y < 144 → υ 94 0 y = τ0 98 0 y) → Q (.inl (some (vI (n' : Int)))) υ) → WP mX13_drawn 316 [vR 14 0, vU, vU, vU, vI (x : Int), vU, vU, vU] [] τ Q := by
    intro m
    induction m with
    | zero =>
      intro x hx τ0 τ q65 f1 hv fin
      refine b_X13_drawn_316 ⟨fun _ => ?_, fun z => by omega⟩
      rw [f1 14 0 65 (fun z => by omega), q65]
      exact fin τ f1 (fun y hy => hv y (by omega))
    | succ m ih =>
      intro x hx τ0 τ q65 f1 hv fin
      refine b_X13_drawn_316 ⟨fun z => by omega, fun _ => ⟨⟨by omega, by omega⟩, ⟨by omega, by omega⟩, by unfold in32; omega, ?_⟩⟩
      rw [Int.toNat_natCast]
      refine ih (x + 1) (by omega) τ0 _ q65 (f1.u ⟨rfl, rfl⟩) (fun y hy => ?_) fin
      by_cases e : y = x
      · rw [e, up_s, f1 98 0 x (fun z => by omega)]
      · rw [up_j e]; exact hv y (by omega)
  -- phase 2
  have pay : ∀ (τ1 : St), FR (fun c i _ => c = 98 ∧ i = 0) σ τ1 → DM σ n n' k top (fun a b => a < n ∧ b < n) (τ1 98 0) → ∀ m a : Nat, m + a = n → ∀ τ : St, FR (fun c i _ => c = 98 ∧ i = 0) σ τ → (∀ A B, A < n' → B < n' → (∀ v, v < a → v ≠ top → k ≤ rN σ v → rN σ v = A → τ 98 0 (12 * A + B) = if τ1 98 0 (12 * A + B) < 1000000000 then τ1 98 0 (12 * A + B) - Wm σ v (gN σ v) else τ1 98 0 (12 * A + B)) ∧ ((∀ v, v < a → v ≠ top → k ≤ rN σ v → rN σ v ≠ A) → τ 98 0 (12 * A + B) = τ1 98 0 (12 * A + B))) → WP mX13_drawn 203 [vR 14 0, vI (n : Int), vI (top : Int), vI (k : Int), vI (a : Int), vU, vU, vU] [] τ Q := by
    intro τ1 g0 hD
    have t1b : ∀ A B, A < n' → B < n' → 0 ≤ τ1 98 0 (12 * A + B) ∧ τ1 98 0 (12 * A + B) ≤ 1000000000 := fun A B hA hB => by
      by_cases e : A = B
      · rw [e, hD.2 B hB]; omega
      · rcases (hD.1 A B hA hB e).2 with z | ⟨a, b, s, s1, s2, s3, s4, s5⟩
        · omega
        · have hne : a ≠ b := fun q => e (by rw [← s2, ← s3, q])
          have := hmin a b s.1 s.2 s1 hne
          have := lsb a s.1 s1
          omega
    -- an entry covers what is paid
    have cov : ∀ v B, v < n → v ≠ top → k ≤ rN σ v → B < n' → τ1 98 0 (12 * rN σ v + B) < 1000000000 → Wm σ v (gN σ v) ≤ τ1 98 0 (12 * rN σ v + B) := fun v B hv hvt hk hB hlt => by
      by_cases e : rN σ v = B
      · rw [← e, hD.2 _ (hnm v hv).2] at hlt; omega
      · rcases (hD.1 (rN σ v) B (hnm v hv).2 hB e).2 with z | ⟨a, b, s, s1, s2, s3, s4, s5⟩
        · omega
        · have ea : v = a := hsg v a hv s.1 hk s2.symm
          have hne : a ≠ b := fun q => e (by rw [← s2, ← s3, q])
          have := hmin a b s.1 s.2 s1 hne
          have el : lsM σ k a = 0 := by unfold lsM; rw [if_neg (by rw [← ea]; omega)]
          rw [ea]
          rw [ea] at s5
          omega
    intro m
    induction m with
    | zero =>
      intro a ha τ f1 hv
      have han : a = n := by omega
      subst han
      refine b_X13_drawn_203 ⟨fun _ => ?_, fun z => by omega⟩
      refine copy 144 0 (by omega) τ τ (e65 τ f1) FR.rf (fun y hy => by omega) (fun υ u1 u2 => h υ ((f1.wk (fun c i j z => ⟨Or.inr z.1, z.2⟩)).tr (u1.wk (fun c i j z => ⟨Or.inl z.1, z.2⟩))) (fun A B hA hB hAB => ?_))
      have eW : Wm υ A B = τ 98 0 (12 * A + B) := u2 _ (by omega)
      rw [eW]
      obtain ⟨v1, v2⟩ := hv A B hA hB
      obtain ⟨d1, d2⟩ := hD.1 A B hA hB hAB
      have tb := t1b A B hA hB
      by_cases hs : ∃ v, v < a ∧ v ≠ top ∧ k ≤ rN σ v ∧ rN σ v = A
      · obtain ⟨v, q1, q2, q3, q4⟩ := hs
        have e := v1 v q1 q2 q3 q4
        have hp := pdb v q1 q2
        have hone : ∀ x, x < a → rN σ x = A → x = v := fun x hx hxa => (hsg v x q1 hx q3 (by rw [q4, hxa])).symm
        have el : lsM σ k v = 0 := by unfold lsM; rw [if_neg (by omega)]
        by_cases hlt : τ1 98 0 (12 * A + B) < 1000000000
        · rw [if_pos hlt] at e
          have hc' := cov v B q1 q2 q3 hB (by rw [q4]; exact hlt)
          rw [q4] at hc'
          refine ⟨by omega, fun _ => ⟨fun x b hx hb h1 h2 h3 => ?_, fun _ => ?_⟩⟩
          · have := hone x hx h1
            subst this
            have := d1 x b ⟨hx, hb⟩ q2 h1 h2 h3
            omega
          · rcases d2 with z | ⟨x, b, s, s1, s2, s3, s4, s5⟩
            · omega
            · have := hone x s.1 s2
              subst this
              exact ⟨x, b, s.1, s.2, s2, s3, s4, by omega⟩
        · rw [if_neg hlt] at e
          refine ⟨by omega, fun _ => ⟨fun x b hx hb h1 h2 h3 => ?_, fun z => by omega⟩⟩
          have := hone x hx h1
          subst this
          have := d1 x b ⟨hx, hb⟩ q2 h1 h2 h3
          omega
      · have e := v2 (fun v q1 q2 q3 q4 => hs ⟨v, q1, q2, q3, q4⟩)
        rw [e]
        refine ⟨tb, fun hAt => ?_⟩
        have hring : ∀ x, x < a → rN σ x = A → x ≠ top ∧ lsM σ k x = Wm σ x (gN σ x) := fun x hx hxa => by
          have hxt : x ≠ top := fun z => hAt (by rw [← hxa, z])
          refine ⟨hxt, ?_⟩
          unfold lsM
          rw [if_pos (Classical.byContradiction (fun z => hs ⟨x, hx, hxt, by omega, hxa⟩))]
        refine ⟨fun x b hx hb h1 h2 h3 => ?_, fun hlt => ?_⟩
        · obtain ⟨r1, r2⟩ := hring x hx h1
          have := d1 x b ⟨hx, hb⟩ r1 h1 h2 h3
          have := pdb x hx r1
          omega
        · rcases d2 with z | ⟨x, b, s, s1, s2, s3, s4, s5⟩
          · omega
          · exact ⟨x, b, s.1, s.2, s2, s3, s4, by rw [← (hring x s.1 s2).2]; exact s5⟩
    | succ m ih =>
      intro a ha τ f1 hv
      have hna := hnm a (by omega)
      have skip : (a = top ∨ rN σ a < k) → in32 ((a : Int) + 1) ∧ WP mX13_drawn 203 [vR 14 0, vI (n : Int), vI (top : Int), vI (k : Int), vI ((a : Int) + 1), vU, vU, vU] [] τ Q := fun hq => ⟨by unfold in32; omega, ih (a + 1) (by omega) τ f1 (fun A B hA hB => ⟨fun v q1 q2 q3 q4 => by
        by_cases e : v = a
        · exfalso; rw [e] at q2 q3; omega
        · exact (hv A B hA hB).1 v (by omega) q2 q3 q4, fun hno => (hv A B hA hB).2 (fun v q1 => hno v (by omega))⟩)⟩
      refine b_X13_drawn_203 ?_
      rw [Int.toNat_natCast, e96 τ f1, e95 τ f1, hna.1]
      refine ⟨fun z => by omega, fun _ => ⟨fun he => skip (Or.inl (by omega)), fun hne => ⟨⟨by omega, by omega⟩, fun hk => ?_, fun hk => skip (Or.inr (by omega))⟩⟩⟩
      have hat : a ≠ top := fun z => hne (by rw [z])
      have hca := hc a (by omega) hat
      have hp := pdb a (by omega) hat
      rw [hca.1, Wm_eq (τ := τ) (a := a) (b := gN σ a) rfl rfl, e94 τ f1]
      refine ⟨by unfold in32; omega, ⟨by omega, by omega⟩, by unfold in32; omega, ⟨by omega, by omega⟩, ?_⟩
      have fresh : ∀ v, v < a → v ≠ top → k ≤ rN σ v → rN σ v ≠ rN σ a := fun v q1 q2 q3 q4 => by
        have := hsg v a (by omega) (by omega) q3 q4
        omega
      have row : ∀ r u : Nat, r + u = n' → ∀ ω : St, FR (fun c i _ => c = 98 ∧ i = 0) σ ω → (∀ A B, A < n' → B < n' → (A ≠ rN σ a ∨ u ≤ B) → ω 98 0 (12 * A + B) = τ 98 0 (12 * A + B)) → (∀ B, B < u → ω 98 0 (12 * rN σ a + B) = if τ1 98 0 (12 * rN σ a + B) < 1000000000 then τ1 98 0 (12 * rN σ a + B) - Wm σ a (gN σ a) else τ1 98 0 (12 * rN σ a + B)) → WP mX13_drawn 252 [vR 14 0, vI (n : Int), vI (top : Int), vI (k : Int), vI (a : Int), vI (Wm σ a (gN σ a)), vI (u : Int), vU] [] ω Q := by
        intro r
        induction r with
        | zero =>
          intro u hu ω o1 o2 o3
          refine b_X13_drawn_252 ⟨fun _ => ⟨by unfold in32; omega, ih (a + 1) (by omega) ω o1 (fun A B hA hB => ⟨fun v q1 q2 q3 q4 => ?_, fun hno => ?_⟩)⟩, fun z => by rw [e65 ω o1] at z; omega⟩
          · by_cases e : v = a
            · rw [← q4, e]; exact o3 B (by omega)
            · have hA' : A ≠ rN σ a := fun z => fresh v (by omega) q2 q3 (by rw [q4, z])
              rw [o2 A B hA hB (Or.inl hA')]
              exact (hv A B hA hB).1 v (by omega) q2 q3 q4
          · have hA' : A ≠ rN σ a := fun z => hno a (by omega) hat (by omega) z.symm
            rw [o2 A B hA hB (Or.inl hA')]
            exact (hv A B hA hB).2 (fun v q1 => hno v (by omega))
        | succ r ihr =>
          intro u hu ω o1 o2 o3
          have eo : ω 98 0 (12 * rN σ a + u) = τ1 98 0 (12 * rN σ a + u) := by
            rw [o2 _ u hna.2 (by omega) (Or.inr (Nat.le_refl _))]
            exact (hv _ u hna.2 (by omega)).2 fresh
          have tb := t1b (rN σ a) u hna.2 (by omega)
          refine b_X13_drawn_252 ?_
          rw [Int.toNat_natCast, e65 ω o1, e96 ω o1, hna.1, show (12 * ((rN σ a : Nat) : Int) + (u : Int)).toNat = 12 * rN σ a + u by omega, eo]
          refine ⟨fun z => by omega, fun _ => ⟨⟨by omega, by omega⟩, by unfold in32; omega, by unfold in32; omega, ⟨by omega, by omega⟩, fun hge => ⟨by unfold in32; omega, ihr (u + 1) (by omega) ω o1 (fun A B hA hB hq => o2 A B hA hB (by omega)) (fun B hB => ?_)⟩, fun hlt => ⟨⟨by omega, by omega⟩, by unfold in32; omega, ⟨by omega, by omega⟩, by unfold in32; omega, ?_⟩⟩⟩
          · by_cases e : B = u
            · rw [e, if_neg (by omega)]; exact eo
            · exact o3 B (by omega)
          · refine ihr (u + 1) (by omega) _ (o1.u ⟨rfl, rfl⟩) (fun A B hA hB hq => ?_) (fun B hB => ?_)
            · rw [up_j (fun z => by omega)]
              exact o2 A B hA hB (by omega)
            · by_cases e : B = u
              · rw [e, up_s, if_pos hlt]
              · rw [up_j (fun z => by omega)]; exact o3 B (by omega)
      exact row n' 0 (by omega) τ f1 (fun A B _ _ _ => rfl) (fun B hB => by omega)
  -- phase 1
  have least : ∀ m a : Nat, m + a = n → ∀ τ : St, FR (fun c i _ => c = 98 ∧ i = 0) σ τ → DM σ n n' k top (SS n a 0) (τ 98 0) → WP mX13_drawn 30 [vR 14 0, vI (n : Int), vI (top : Int), vI (k : Int), vI (a : Int), vU, vU, vU] [] τ Q := by
    intro m
    induction m with
    | zero =>
      intro a ha τ f1 hD
      have han : a = n := by omega
      subst han
      refine b_X13_drawn_30 ⟨fun _ => ?_, fun z => by omega⟩
      refine pay τ f1 ⟨fun A B hA hB hAB => ?_, hD.2⟩ a 0 (by omega) τ f1 (fun A B hA hB => ⟨fun v q1 => by omega, fun _ => rfl⟩)
      obtain ⟨d1, d2⟩ := hD.1 A B hA hB hAB
      refine ⟨fun x b s => d1 x b ⟨s.1, s.2, Or.inl s.1⟩, ?_⟩
      rcases d2 with z | ⟨x, b, s, s1⟩
      · exact Or.inl z
      · exact Or.inr ⟨x, b, ⟨s.1, s.2.1⟩, s1⟩
    | succ m ih =>
      intro a ha τ f1 hD
      have hna := hnm a (by omega)
      refine b_X13_drawn_30 ?_
      rw [Int.toNat_natCast, e96 τ f1, e95 τ f1, hna.1]
      refine ⟨fun z => by omega, fun _ => ⟨fun hne => ?_, fun he => ⟨by unfold in32; omega, ih (a + 1) (by omega) τ f1 ⟨fun A B hA hB hAB => ?_, hD.2⟩⟩⟩⟩
      · have hat : a ≠ top := fun z => hne (by rw [z])
        have hca := hc a (by omega) hat
        have hp := pdb a (by omega) hat
        have hl := lsb a (by omega) hat
        have row : ∀ r b : Nat, r + b = n → ∀ ω : St, FR (fun c i _ => c = 98 ∧ i = 0) σ ω → DM σ n n' k top (SS n a b) (ω 98 0) → WP mX13_drawn 83 [vR 14 0, vI (n : Int), vI (top : Int), vI (k : Int), vI (a : Int), vI (lsM σ k a), vI (b : Int), vU] [] ω Q := by
          intro r
          induction r with
          | zero =>
            intro b hb ω o1 oD
            refine b_X13_drawn_83 ⟨fun _ => ⟨by unfold in32; omega, ih (a + 1) (by omega) ω o1 ⟨fun A B hA hB hAB => ?_, oD.2⟩⟩, fun z => by omega⟩
            obtain ⟨d1, d2⟩ := oD.1 A B hA hB hAB
            refine ⟨fun x y s => d1 x y ⟨s.1, s.2.1, by have := s.2.2; have := s.2.1; omega⟩, ?_⟩
            rcases d2 with z | ⟨x, y, s, s1⟩
            · exact Or.inl z
            · exact Or.inr ⟨x, y, ⟨s.1, s.2.1, by have := s.2.2; omega⟩, s1⟩
          | succ r ihr =>
            intro b hb ω o1 oD
            have hnb := hnm b (by omega)
            -- nothing is put
            have same : (b = a ∨ rN σ b = rN σ a ∨ 1000000000 ≤ Wm σ a b) → in32 ((b : Int) + 1) ∧ WP mX13_drawn 83 [vR 14 0, vI (n : Int), vI (top : Int), vI (k : Int), vI (a : Int), vI (lsM σ k a), vI ((b : Int) + 1), vU] [] ω Q := fun hq => ⟨by unfold in32; omega, ihr (b + 1) (by omega) ω o1 ⟨fun A B hA hB hAB => by
              obtain ⟨d1, d2⟩ := oD.1 A B hA hB hAB
              refine ⟨fun x y s s1 s2 s3 s4 => ?_, ?_⟩
              · by_cases q : x = a ∧ y = b
                · exfalso
                  obtain ⟨rfl, rfl⟩ := q
                  rcases hq with z | z | z
                  · exact hAB (by rw [← s2, ← s3, z])
                  · exact hAB (by rw [← s2, ← s3, z])
                  · omega
                · exact d1 x y ⟨s.1, s.2.1, by have := s.2.2; omega⟩ s1 s2 s3 s4
              · rcases d2 with z | ⟨x, y, s, s1⟩
                · exact Or.inl z
                · exact Or.inr ⟨x, y, ⟨s.1, s.2.1, by have := s.2.2; omega⟩, s1⟩, oD.2⟩⟩
            refine b_X13_drawn_83 ?_
            simp only [Int.toNat_natCast]
            rw [e96 ω o1, e96 ω o1, hna.1, hnb.1, Wm_eq (τ := ω) (a := a) (b := b) rfl rfl, e94 ω o1, show (12 * ((rN σ a : Nat) : Int) + ((rN σ b : Nat) : Int)).toNat = 12 * rN σ a + rN σ b by omega]
            refine ⟨fun z => by omega, fun _ => ⟨fun he => same (Or.inl (by omega)), fun hne2 => ⟨⟨by omega, by omega⟩, ⟨by omega, by omega⟩, fun he => same (Or.inr (Or.inl (by omega))), fun hne3 => ⟨by unfold in32; omega, by unfold in32; omega, ⟨by omega, by omega⟩, fun hlt => ?_, fun hge => same (Or.inr (Or.inr hge))⟩⟩⟩⟩
            have hwb := hw a b (by omega) (by omega) (by omega)
            have hrab : rN σ a ≠ rN σ b := fun z => hne3 (by rw [z])
            refine ⟨⟨by omega, by omega⟩, by unfold in32; omega, ⟨by omega, by omega⟩, by unfold in32; omega, ⟨by omega, by omega⟩, by unfold in32; omega, by unfold in32; omega, ⟨by omega, by omega⟩, by unfold in32; omega, ⟨by omega, by omega⟩, by unfold in32; omega, ?_⟩
            refine ihr (b + 1) (by omega) _ (o1.u ⟨rfl, rfl⟩) ⟨fun A B hA hB hAB => ?_, fun A hA => by rw [up_j (fun z => hrab (by omega))]; exact oD.2 A hA⟩
            obtain ⟨d1, d2⟩ := oD.1 A B hA hB hAB
            by_cases q : A = rN σ a ∧ B = rN σ b
            · obtain ⟨q1, q2⟩ := q
              subst q1 q2
              rw [up_s]
              refine ⟨fun x y s s1 s2 s3 s4 => ?_, ?_⟩
              · by_cases q : x = a ∧ y = b
                · rw [q.1, q.2]; omega
                · have := d1 x y ⟨s.1, s.2.1, by have := s.2.2; omega⟩ s1 s2 s3 s4
                  omega
              · by_cases z : ω 98 0 (12 * rN σ a + rN σ b) ≤ Wm σ a b - lsM σ k a
                · rw [show min (ω 98 0 (12 * rN σ a + rN σ b)) (Wm σ a b - lsM σ k a) = ω 98 0 (12 * rN σ a + rN σ b) by omega]
                  rcases d2 with z | ⟨x, y, s, s1⟩
                  · exact Or.inl z
                  · exact Or.inr ⟨x, y, ⟨s.1, s.2.1, by have := s.2.2; omega⟩, s1⟩
                · exact Or.inr ⟨a, b, ⟨by omega, by omega, by omega⟩, hat, rfl, rfl, hlt, by omega⟩
            · rw [up_j (fun z => q (by omega))]
              refine ⟨fun x y s s1 s2 s3 s4 => ?_, ?_⟩
              · by_cases q' : x = a ∧ y = b
                · exfalso
                  rw [q'.1] at s2
                  rw [q'.2] at s3
                  exact q ⟨s2.symm, s3.symm⟩
                · exact d1 x y ⟨s.1, s.2.1, by have := s.2.2; omega⟩ s1 s2 s3 s4
              · rcases d2 with z | ⟨x, y, s, s1⟩
                · exact Or.inl z
                · exact Or.inr ⟨x, y, ⟨s.1, s.2.1, by have := s.2.2; omega⟩, s1⟩
        have start := row n 0 (by omega) τ f1 hD
        refine ⟨⟨by omega, by omega⟩, fun hk => ?_, fun hk => ?_⟩
        · have el : lsM σ k a = 0 := by unfold lsM; rw [if_neg (by omega)]
          rw [el] at start; exact start
        · have el : lsM σ k a = Wm σ a (gN σ a) := by unfold lsM; rw [if_pos (by omega)]
          rw [hca.1, Wm_eq (τ := τ) (a := a) (b := gN σ a) rfl rfl, e94 τ f1, ← el]
          exact ⟨by unfold in32; omega, ⟨by omega, by omega⟩, by unfold in32; omega, ⟨by omega, by omega⟩, start⟩
      · obtain ⟨d1, d2⟩ := hD.1 A B hA hB hAB
        refine ⟨fun x y s s1 s2 s3 s4 => d1 x y ⟨s.1, s.2.1, ?_⟩ s1 s2 s3 s4, ?_⟩
        · rcases s.2.2 with z | z
          · by_cases e : x = a
            · exfalso; exact s1 (by omega)
            · exact Or.inl (by omega)
          · omega
        · rcases d2 with z | ⟨x, y, s, s1⟩
          · exact Or.inl z
          · exact Or.inr ⟨x, y, ⟨s.1, s.2.1, by have := s.2.2; omega⟩, s1⟩
  have init : ∀ m x : Nat, m + x = 144 → ∀ τ : St, FR (fun c i _ => c = 98 ∧ i = 0) σ τ → (∀ y, y < x → τ 98 0 y = 1000000000) → WP mX13_drawn 3 [vR 14 0, vI (n : Int), vI (top : Int), vI (k : Int), vI (x : Int), vU, vU, vU] [] τ Q := by
    intro m
    induction m with
    | zero =>
      intro x hx τ f1 hv
      refine b_X13_drawn_3 ⟨fun _ => ?_, fun z => by omega⟩
      exact least n 0 (by omega) τ f1 ⟨fun A B hA hB hAB => ⟨fun a b s => by have := s.2.2; omega, Or.inl (hv _ (by omega))⟩, fun A hA => hv _ (by omega)⟩
    | succ m ih =>
      intro x hx τ f1 hv
      refine b_X13_drawn_3 ⟨fun z => by omega, fun _ => ⟨⟨by omega, by omega⟩, by unfold in32; omega, ?_⟩⟩
      rw [Int.toNat_natCast]
      refine ih (x + 1) (by omega) _ (f1.u ⟨rfl, rfl⟩) (fun y hy => ?_)
      by_cases e : y = x
      · rw [e, up_s]
      · rw [up_j e]; exact hv y (by omega)
  exact b_X13_drawn_0 (init 144 0 (by omega) σ FR.rf (fun y hy => by omega))
end Drawn
