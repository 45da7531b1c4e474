/-! ===== the model's findRings ===== -/
def gN (τ : St) (a : Nat) : Nat := (τ 95 0 a).toNat
def rN (τ : St) (a : Nat) : Nat := (τ 96 0 a).toNat
def frgP (c i j : Nat) : Prop := i = 0 ∧ (c = 96 ∨ (c = 14 ∧ j = 65))
section MRings2
variable {σ : St} {Q : Res → St → Prop} {n top : Nat}
theorem per {c : Nat → Nat} {y q : Nat} (hq : 0 < q) (hp : itn c q y = y) : ∀ x, ∃ r, r < q ∧ itn c x y = itn c r y := by
  intro x
  induction x with
  | zero => exact ⟨0, hq, rfl⟩
  | succ x ih =>
    obtain ⟨r, r1, r2⟩ := ih
    by_cases e : r + 1 = q
    · exact ⟨0, hq, by rw [itn_s, r2, ← itn_s c r y, e, hp]; rfl⟩
    · exact ⟨r + 1, by omega, by rw [itn_s, r2, ← itn_s c r y]⟩
theorem in_walk {c : Nat → Nat} {v : Nat} (h : ∀ s, s ≤ n → itn c s v < n) : ∀ s, ∃ t, t < n ∧ itn c s (itn c n v) = itn c t v := by
  obtain ⟨l, m, h1, h2, h3⟩ := php (f := fun s => itn c s v) h
  intro s
  have hp : itn c (m - l) (itn c l v) = itn c l v := by
    rw [← itn_add, show m - l + l = m by omega]; exact h3.symm
  obtain ⟨r, r1, r2⟩ := per (by omega) hp (s + (n - l))
  refine ⟨r + l, by omega, ?_⟩
  rw [itn_add, ← r2, ← itn_add, ← itn_add, show s + (n - l) + l = s + n by omega]
theorem RGI.unn {c : Nat → Nat} {nm : Nat → Int} {a k u p : Nat} (h : RGI n top c nm a k) (hp : itn c p u = u) (hY : ∀ s, s < p → itn c s u < n ∧ itn c s u ≠ top) (hnm : nm u = -1) : ∀ s, s < p → nm (itn c s u) = -1 := by
  have fwd : ∀ j v, v < n → nm v ≠ -1 → (∀ i, i < j → itn c i v < n) → nm (itn c j v) = nm v := by
    intro j
    induction j with
    | zero => intro v _ _ _; rfl
    | succ j ih =>
      intro v hv hne hb
      have e := ih v hv hne (fun i hi => hb i (by omega))
      rw [itn_s, h.2.1 _ (hb j (by omega)) (by rw [e]; exact hne), e]
  intro s hs
  apply Classical.byContradiction
  intro z
  have e := fwd (p - s) (itn c s u) (hY s hs).1 z (fun i hi => by rw [← itn_add]; exact (hY (i + s) (by omega)).1)
  rw [← itn_add, show p - s + s = p by omega, hp, hnm] at e
  exact z e.symm
theorem d_findRings (hn : n ≤ 12) (ht : top < n) (hc : ∀ v, v < n → v ≠ top → σ 95 0 v = (gN σ v : Nat) ∧ gN σ v < n) (h0 : ∀ τ, FR frgP σ τ → (∃ mk nm, NR n top (gN σ) mk nm n 0) → Q (.inl (some (vI 0))) τ) (h : ∀ τ (k n' : Nat) (mk nm : Nat → Int), FR frgP σ τ → k ≠ 0 → k ≤ n → NR n top (gN σ) mk nm n k → τ 14 0 65 = n' → (∀ a, a < n → τ 96 0 a = (rN τ a : Nat) ∧ rN τ a < n') → (∀ a, a < n → nm a ≠ -1 → (rN τ a : Int) = nm a) → (∀ a, a < n → nm a = -1 → k ≤ rN τ a) → (∀ a b, a < n → b < n → nm a = -1 → rN τ a = rN τ b → a = b) → (∀ A, A < n' → ∃ a, a < n ∧ rN τ a = A) → Q (.inl (some (vI (k : Int)))) τ) : WP mX13_findRings 0 [vR 14 0, vI (n : Int), vI (top : Int), vU, vU, vU, vU, vU] [] σ Q := by
  have hcn : ∀ v, v < n → v ≠ top → gN σ v < n := fun v h1 h2 => (hc v h1 h2).2
  have e95 : ∀ τ : St, FR (fun c i _ => c = 96 ∧ i = 0) σ τ → ∀ v, τ 95 0 v = σ 95 0 v := fun τ f v => f 95 0 _ (fun z => by omega)
  -- the others' names
  have others : ∀ (τ0 : St) (k : Nat), FR (fun c i _ => c = 96 ∧ i = 0) σ τ0 → k ≠ 0 → RGI n top (gN σ) (τ0 96 0) n k → ∀ m a : Nat, m + a = n → ∀ (τ : St) (x : Nat), FR (fun c i _ => c = 96 ∧ i = 0) σ τ → k ≤ x → x ≤ k + a → (∀ v, v < n → a ≤ v → τ 96 0 v = τ0 96 0 v) → (∀ v, v < a → τ0 96 0 v ≠ -1 → τ 96 0 v = τ0 96 0 v) → (∀ v, v < a → τ0 96 0 v = -1 → ∃ i : Nat, k ≤ i ∧ i < x ∧ τ 96 0 v = i ∧ ∀ u, u < v → τ 96 0 u ≠ (i : Nat)) → (∀ i, k ≤ i → i < x → ∃ v, v < a ∧ τ 96 0 v = (i : Nat)) → WP mX13_findRings 141 [vR 14 0, vI (n : Int), vU, vI (k : Int), vI (x : Int), vI (a : Int), vU, vU] [] τ Q := by
    intro τ0 k f0 hk0 hR m
    have hkn : k ≤ n := hR.2.2.2.2.2
    have hnm : ∀ a, a < n → τ0 96 0 a = -1 ∨ ∃ i : Nat, i < k ∧ τ0 96 0 a = i := fun a ha => (hR.1 a ha).imp_right (fun z => z.2)
    induction m with
    | zero =>
      intro a ha τ x f1 hx1 hx2 t0 t1 t2 t3
      have han : a = n := by omega
      subst han
      have e96 : ∀ v, (up τ 14 0 65 (x : Int)) 96 0 v = τ 96 0 v := fun v => up_c (by omega)
      have er : ∀ v, rN (up τ 14 0 65 (x : Int)) v = rN τ v := fun v => by unfold rN; rw [e96]
      have hv : ∀ v, v < a → ∃ i : Nat, τ 96 0 v = i ∧ i < x := fun v hva => by
        rcases hnm v hva with z | ⟨i, i1, i2⟩
        · obtain ⟨i, q1, q2, q3, _⟩ := t2 v hva z
          exact ⟨i, q3, q2⟩
        · exact ⟨i, by rw [t1 v hva (by omega)]; exact i2, by omega⟩
      have hN : ∀ v, v < a → τ 96 0 v = (rN τ v : Nat) ∧ rN τ v < x := fun v hva => by
        obtain ⟨i, i1, i2⟩ := hv v hva
        have : rN τ v = i := by unfold rN; rw [i1]; rfl
        rw [this]; exact ⟨i1, i2⟩
      obtain ⟨mk, hNR⟩ := hR.nr ht hcn
      refine b_X13_findRings_141 ⟨fun _ => h _ k x mk (τ0 96 0) ((f1.wk (fun c i j z => ⟨z.2, Or.inl z.1⟩)).u ⟨rfl, by omega⟩) hk0 hkn hNR (up_s _ _ _ _ _) (fun v hva => by rw [e96, er]; exact hN v hva) (fun v hva hne => ?_) (fun v hva hm => ?_) (fun u v hu hv' hm he => ?_) (fun A hA => ?_), fun z => by omega⟩
      · rw [er, ← (hN v hva).1]; exact t1 v hva hne
      · rw [er]
        obtain ⟨i, q1, q2, q3, _⟩ := t2 v hva hm
        have := (hN v hva).1
        omega
      · rw [er, er] at he
        have e1 := (hN u hu).1
        have e2 := (hN v hv').1
        rw [he] at e1
        obtain ⟨i, i1, i2, i3, i4⟩ := t2 u hu hm
        rcases Nat.lt_trichotomy u v with z | z | z
        · exfalso
          rcases hnm v hv' with w | ⟨i', w1, w2⟩
          · obtain ⟨i', j1, j2, j3, j4⟩ := t2 v hv' w
            exact j4 u z (by omega)
          · rw [← t1 v hv' (by omega)] at w2
            omega
        · exact z
        · exact absurd (by omega) (i4 v z)
      · by_cases c : A < k
        · obtain ⟨v, v1, v2⟩ := hR.2.2.2.1 A c
          refine ⟨v, v1, ?_⟩
          rw [er]
          have := t1 v v1 (by omega)
          unfold rN
          rw [this, v2]; rfl
        · obtain ⟨v, v1, v2⟩ := t3 A (by omega) hA
          refine ⟨v, v1, ?_⟩
          rw [er]
          unfold rN
          rw [v2]; rfl
    | succ m ih =>
      intro a ha τ x f1 hx1 hx2 t0 t1 t2 t3
      have ea := t0 a (by omega) (Nat.le_refl _)
      refine b_X13_findRings_141 ?_
      rw [Int.toNat_natCast, ea]
      refine ⟨fun z => by omega, fun _ => ⟨⟨by omega, by omega⟩, fun he => ⟨⟨by omega, by omega⟩, by unfold in32; omega, by unfold in32; omega, ?_⟩, fun hne => ⟨by unfold in32; omega, ih (a + 1) (by omega) τ x f1 hx1 (by omega) (fun v hv hav => t0 v hv (by omega)) (fun v hv hm => ?_) (fun v hv hm => ?_) (fun i i1 i2 => ?_)⟩⟩⟩
      · rw [show ((x : Int) + 1) = ((x + 1 : Nat) : Int) by push_cast; rfl, show ((a : Int) + 1) = ((a + 1 : Nat) : Int) by push_cast; rfl]
        refine ih (a + 1) (by omega) _ (x + 1) (f1.u ⟨rfl, rfl⟩) (by omega) (by omega) (fun v hv hav => by rw [up_j (by omega)]; exact t0 v hv (by omega)) (fun v hv hm => ?_) (fun v hv hm => ?_) (fun i i1 i2 => ?_)
        · by_cases e : v = a
          · rw [e] at hm; exact absurd he hm
          · rw [up_j e]; exact t1 v (by omega) hm
        · by_cases e : v = a
          · refine ⟨x, hx1, by omega, by rw [e, up_s], fun u hu => ?_⟩
            rw [up_j (by omega)]
            intro z
            by_cases w : τ0 96 0 u = -1
            · obtain ⟨i, q1, q2, q3, _⟩ := t2 u (by omega) w
              omega
            · rcases hnm u (by omega) with w' | ⟨i', w1, w2⟩
              · exact w w'
              · rw [t1 u (by omega) w] at z; omega
          · obtain ⟨i, q1, q2, q3, q4⟩ := t2 v (by omega) hm
            exact ⟨i, q1, by omega, by rw [up_j e]; exact q3, fun u hu => by rw [up_j (by omega)]; exact q4 u hu⟩
        · by_cases e : i = x
          · exact ⟨a, by omega, by rw [up_s, e]⟩
          · obtain ⟨v, v1, v2⟩ := t3 i i1 (by omega)
            exact ⟨v, by omega, by rw [up_j (by omega)]; exact v2⟩
      · by_cases e : v = a
        · rw [e]; exact ea
        · exact t1 v (by omega) hm
      · by_cases e : v = a
        · rw [e] at hm; exact absurd hm hne
        · exact t2 v (by omega) hm
      · obtain ⟨v, v1, v2⟩ := t3 i i1 i2
        exact ⟨v, by omega, v2⟩
  have outer : ∀ m a : Nat, m + a = n → ∀ (τ : St) (k : Nat), FR (fun c i _ => c = 96 ∧ i = 0) σ τ → RGI n top (gN σ) (τ 96 0) a k → WP mX13_findRings 25 [vR 14 0, vI (n : Int), vI (top : Int), vI (k : Int), vI (a : Int), vU, vU, vU] [] τ Q := by
    intro m
    induction m with
    | zero =>
      intro a ha τ k f1 hR
      have han : a = n := by omega
      subst han
      refine b_X13_findRings_25 ⟨fun _ => ⟨fun hk => ?_, fun hk => ?_⟩, fun z => by omega⟩
      · exact others τ k f1 (by omega) hR a 0 (by omega) τ k f1 (Nat.le_refl _) (by omega) (fun v _ _ => rfl) (fun v hv => by omega) (fun v hv => by omega) (fun i i1 i2 => by omega)
      · have hk0 : k = 0 := by omega
        subst hk0
        obtain ⟨mk, hNR⟩ := hR.nr ht hcn
        exact h0 τ (f1.wk (fun c i j z => ⟨z.2, Or.inl z.1⟩)) ⟨mk, _, hNR⟩
    | succ m ih =>
      intro a ha τ k f1 hR
      have hka : k ≤ a := hR.2.2.2.2.2
      have next : ∀ (υ : St) (k' : Nat), FR (fun c i _ => c = 96 ∧ i = 0) σ υ → RGI n top (gN σ) (υ 96 0) (a + 1) k' → in32 ((a : Int) + 1) ∧ WP mX13_findRings 25 [vR 14 0, vI (n : Int), vI (top : Int), vI (k' : Int), vI ((a : Int) + 1), vU, vU, vU] [] υ Q := fun υ k' g1 g2 => ⟨by unfold in32; omega, ih (a + 1) (by omega) υ k' g1 g2⟩
      refine b_X13_findRings_25 ⟨fun z => by omega, fun _ => ?_⟩
      have walk : ∀ r s : Nat, r + s = n → (∀ t, t ≤ s → itn (gN σ) t a < n) → (∀ t, t < s → itn (gN σ) t a ≠ top) → WP mX13_findRings 38 [vR 14 0, vI (n : Int), vI (top : Int), vI (k : Int), vI (a : Int), vI ((itn (gN σ) s a : Nat) : Int), vI (s : Int), vU] [] τ Q := by
        intro r
        induction r with
        | zero =>
          intro s hs w1 w2
          have hsn : s = n := by omega
          have hb := w1 s (Nat.le_refl _)
          refine b_X13_findRings_38 ?_
          rw [Int.toNat_natCast]
          refine ⟨fun hz => ⟨fun _ => next τ k f1 (hR.skip ⟨s, Or.inl (by omega)⟩), fun z => absurd hz z⟩, fun hnt => ⟨fun _ => ⟨fun z => absurd z hnt, fun _ => ⟨⟨by omega, by omega⟩, fun hm => ?_, fun hm => next τ k f1 (hR.skip ⟨s, Or.inr ⟨hb, hm⟩⟩)⟩⟩, fun z => by omega⟩⟩
          subst hsn
          have wn : ∀ t, t ≤ s → itn (gN σ) t a < s := w1
          obtain ⟨p, p1, p2, p3, p4⟩ := in_ring (n := s) wn
          have hY : ∀ x, x < p → itn (gN σ) x (itn (gN σ) s a) < s ∧ itn (gN σ) x (itn (gN σ) s a) ≠ top := fun x hx => by
            obtain ⟨t, t1, t2⟩ := in_walk (n := s) wn x
            rw [t2]; exact ⟨wn t (by omega), w2 t t1⟩
          have un := hR.unn p3 hY hm
          generalize hu : itn (gN σ) s a = u at *
          have nam : ∀ r x : Nat, r + x = p → ∀ ω : St, FR (fun c i _ => c = 96 ∧ i = 0) σ ω → (∀ t, t < x → ω 96 0 (itn (gN σ) t u) = (k : Nat)) → (∀ v, (∀ t, t < x → v ≠ itn (gN σ) t u) → ω 96 0 v = τ 96 0 v) → WP mX13_findRings 89 [vR 14 0, vI (s : Int), vI (top : Int), vI (k : Int), vI (a : Int), vU, vU, vI ((itn (gN σ) x u : Nat) : Int)] [] ω Q := by
            intro r
            induction r with
            | zero =>
              intro x hx ω o1 o2 o3
              have hxp : x = p := by omega
              subst hxp
              have hyu : ω 96 0 u = (k : Nat) := o2 0 p1
              have hu0 := (hY 0 p1).1
              have hu0' : u < s := hu0
              refine b_X13_findRings_89 ?_
              rw [p3, Int.toNat_natCast, hyu]
              have := next ω (k + 1) o1 (hR.ring p1 p2 p3 p4 hY ⟨s, hu⟩ hm o2 o3)
              exact ⟨⟨by omega, by omega⟩, fun _ => ⟨by unfold in32; omega, this.1, this.2⟩, fun z => by omega⟩
            | succ r ihr =>
              intro x hx ω o1 o2 o3
              have hy := hY x (by omega)
              have hm' : ω 96 0 (itn (gN σ) x u) = -1 := by
                rw [o3 _ (fun t ht' z => p4 t x ht' (by omega) z.symm)]
                exact un x (by omega)
              have hcy := hc _ hy.1 hy.2
              refine b_X13_findRings_89 ?_
              rw [Int.toNat_natCast, hm', e95 ω o1, hcy.1, ← itn_s (gN σ) x u]
              refine ⟨⟨by omega, by omega⟩, fun z => absurd rfl z, fun _ => ⟨⟨by omega, by omega⟩, ⟨by omega, by omega⟩, ?_⟩⟩
              refine ihr (x + 1) (by omega) _ (o1.u ⟨rfl, rfl⟩) (fun t ht' => ?_) (fun v hv => ?_)
              · by_cases e : t = x
                · rw [e, up_s]
                · rw [up_j (p4 t x (by omega) (by omega))]; exact o2 t (by omega)
              · rw [up_j (hv x (by omega))]
                exact o3 v (fun t ht' => hv t (by omega))
          exact nam p 0 (by omega) τ f1 (fun t ht' => by omega) (fun v _ => rfl)
        | succ r ihr =>
          intro s hs w1 w2
          have hb := w1 s (Nat.le_refl _)
          refine b_X13_findRings_38 ?_
          rw [Int.toNat_natCast]
          refine ⟨fun hz => ⟨fun _ => next τ k f1 (hR.skip ⟨s, Or.inl (by omega)⟩), fun z => absurd hz z⟩, fun hnt => ⟨fun z => by omega, fun _ => ⟨⟨by omega, by omega⟩, by unfold in32; omega, ?_⟩⟩⟩
          have hnt' : itn (gN σ) s a ≠ top := fun z => hnt (by rw [z])
          have hcy := hc _ hb hnt'
          rw [e95 τ f1, hcy.1, ← itn_s (gN σ) s a, show ((s : Int) + 1) = ((s + 1 : Nat) : Int) by push_cast; rfl]
          refine ihr (s + 1) (by omega) (fun t ht' => ?_) (fun t ht' => ?_)
          · by_cases e : t = s + 1
            · rw [e, itn_s]; exact hcy.2
            · exact w1 t (by omega)
          · by_cases e : t = s
            · rw [e]; exact hnt'
            · exact w2 t (by omega)
      exact walk n 0 (by omega) (fun t ht' => by rw [show t = 0 by omega]; show a < n; omega) (fun t ht' => by omega)
  refine b_X13_findRings_0 ?_
  have init : ∀ m a : Nat, m + a = n → ∀ τ : St, FR (fun c i _ => c = 96 ∧ i = 0) σ τ → (∀ v, v < a → τ 96 0 v = -1) → WP mX13_findRings 2 [vR 14 0, vI (n : Int), vI (top : Int), vI (a : Int), vU, vU, vU, vU] [] τ Q := by
    intro m
    induction m with
    | zero =>
      intro a ha τ f1 hv
      have han : a = n := by omega
      subst han
      refine b_X13_findRings_2 ⟨fun _ => ?_, fun z => by omega⟩
      exact outer a 0 (by omega) τ 0 f1 ⟨fun v hv' => Or.inl (hv v hv'), fun v hv' z => absurd (hv v hv') z, fun u v hu _ z => absurd (hv u hu) z, fun i hi => by omega, fun v hv' => by omega, by omega⟩
    | succ m ih =>
      intro a ha τ f1 hv
      refine b_X13_findRings_2 ⟨fun z => by omega, fun _ => ⟨⟨by omega, by omega⟩, by unfold in32; omega, ?_⟩⟩
      rw [Int.toNat_natCast]
      refine ih (a + 1) (by omega) _ (f1.u ⟨rfl, rfl⟩) (fun v hv' => ?_)
      by_cases e : v = a
      · rw [e, up_s]
      · rw [up_j e]; exact hv v (by omega)
  exact init n 0 (by omega) σ FR.rf (fun v hv => by omega)
end MRings2
