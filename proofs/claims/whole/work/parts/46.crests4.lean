/-! ===== the class' Rests: numberByLeast ===== -/
theorem cnt_tt {P : Nat → Prop} : ∀ {n : Nat}, (∀ k, k < n → P k) → cnt P n = n := by
  intro n
  induction n with
  | zero => intro _; rfl
  | succ n ih => intro h; rw [cnt_t (h n (by omega)), ih (fun k hk => h k (by omega))]
def NB (nu : Int) (Hk : Nat → Int) (N : Int) (lw : Nat → Int) (n : Nat) (m : Int) : Prop := (∀ r : Nat, (r : Int) < nu → lw r = -1 ∨ (0 ≤ lw r ∧ lw r < m)) ∧ (∀ k : Nat, k < n → 0 ≤ Hk k → lw (Hk k).toNat ≠ -1) ∧ (∀ r r' : Nat, (r : Int) < nu → (r' : Int) < nu → lw r ≠ -1 → lw r = lw r' → r = r') ∧ (∀ k : Nat, (k : Int) < N → 0 ≤ Hk k → lw (Hk k).toNat ≠ -1 → ∀ v, 0 ≤ v → v < lw (Hk k).toNat → ∃ k' : Nat, k' < k ∧ 0 ≤ Hk k' ∧ lw (Hk k').toNat = v) ∧ (∀ v, 0 ≤ v → v < m → ∃ k' : Nat, k' < n ∧ 0 ≤ Hk k' ∧ lw (Hk k').toNat = v) ∧ m = (cnt (fun r => lw r ≠ -1) nu.toNat : Nat)
theorem NB.skip {nu : Int} {Hk : Nat → Int} {N : Int} {lw : Nat → Int} {n : Nat} {m : Int} (h : NB nu Hk N lw n m) (hn : 0 ≤ Hk n → lw (Hk n).toNat ≠ -1) : NB nu Hk N lw (n + 1) m := by
  obtain ⟨h1, h2, h3, h4, h5, h6⟩ := h
  refine ⟨h1, fun k hk h0 => ?_, h3, h4, fun v v0 v1 => ?_, h6⟩
  · by_cases c : k = n
    · rw [c] at h0 ⊢; exact hn h0
    · exact h2 k (by omega) h0
  · obtain ⟨k, k1, k2⟩ := h5 v v0 v1
    exact ⟨k, by omega, k2⟩
theorem NB.step {nu : Int} {Hk : Nat → Int} {N : Int} {lw lw' : Nat → Int} {n : Nat} {m : Int} (h : NB nu Hk N lw n m) (hb : ∀ k : Nat, (k : Int) < N → Hk k < nu) (hN : (n : Int) < N) (h0 : 0 ≤ Hk n) (hl : lw (Hk n).toNat = -1) (hl' : ∀ r, lw' r = if r = (Hk n).toNat then m else lw r) : NB nu Hk N lw' (n + 1) (m + 1) := by
  obtain ⟨h1, h2, h3, h4, h5, h6⟩ := h
  have hbn := hb n hN
  have m0 : 0 ≤ m := by omega
  have e : ∀ k, lw (Hk k).toNat ≠ -1 → lw' (Hk k).toNat = lw (Hk k).toNat := fun k z => by
    rw [hl', if_neg (fun q => z (by rw [q]; exact hl))]
  refine ⟨fun r hr => ?_, fun k hk k0 => ?_, fun r r' hr hr' hn he => ?_, fun k hk k0 hn v v0 v1 => ?_, fun v v0 v1 => ?_, ?_⟩
  · rw [hl']
    split
    · exact Or.inr ⟨m0, by omega⟩
    · rcases h1 r hr with z | z
      · exact Or.inl z
      · exact Or.inr ⟨z.1, by omega⟩
  · by_cases c : k = n
    · rw [c, hl', if_pos rfl]; omega
    · have := h2 k (by omega) k0
      rw [e k this]; exact this
  · rw [hl' r] at hn he
    rw [hl' r'] at he
    by_cases c : r = (Hk n).toNat
    · rw [if_pos c] at he
      by_cases c' : r' = (Hk n).toNat
      · rw [c, c']
      · rw [if_neg c'] at he
        rcases h1 r' hr' with z | z <;> omega
    · rw [if_neg c] at hn he
      by_cases c' : r' = (Hk n).toNat
      · rw [if_pos c'] at he
        rcases h1 r hr with z | z <;> omega
      · rw [if_neg c'] at he
        exact h3 r r' hr hr' hn he
  · rw [hl'] at v1 hn
    by_cases c : (Hk k).toNat = (Hk n).toNat
    · rw [if_pos c] at v1
      obtain ⟨k', q1, q2, q3⟩ := h5 v v0 v1
      refine ⟨k', ?_, q2, ?_⟩
      · apply Classical.byContradiction
        intro q
        have := h2 k (by omega) k0
        rw [c] at this
        exact this hl
      · rw [e k' (by omega)]; exact q3
    · rw [if_neg c] at v1 hn
      obtain ⟨k', q1, q2, q3⟩ := h4 k hk k0 hn v v0 v1
      exact ⟨k', q1, q2, by rw [e k' (by omega)]; exact q3⟩
  · by_cases c : v = m
    · exact ⟨n, by omega, h0, by rw [hl', if_pos rfl, c]⟩
    · obtain ⟨k', q1, q2, q3⟩ := h5 v v0 (by omega)
      exact ⟨k', by omega, q2, by rw [e k' (by omega)]; exact q3⟩
  · rw [cnt_add (P := fun r => lw r ≠ -1) (Q := fun r => lw' r ≠ -1) (m := (Hk n).toNat) (n := nu.toNat) (by omega) (fun k _ hk => by rw [hl', if_neg hk]) (by rw [hl', if_pos rfl]; omega) (fun z => z hl), h6]
    push_cast; rfl
section CR4
variable {i j : Nat} {σ : St} {Q : Res → St → Prop} {V : Vy} {s t : Int}
def nbP (i : Nat) (c i' _j : Nat) : Prop := i' = i ∧ (c = 27 ∨ c = 28 ∨ c = 33)
theorem c_number {nu : Int} (hV : VOK V) (hA : VA σ j V) (hK : KK V (hm σ i) (tY σ i) nu) (hcl : ∀ x, isSt V x → tY σ i x ≠ -5) (hnu : nu ≤ cod V) (h : ∀ τ, FR (nbP i) σ τ → HOME V (hm τ i) nu → (∀ s, isSt V s → ∀ k, 0 ≤ k → (τ 28 i s.toNat = k ↔ BAS V (hm τ i) k s)) → (∀ s, isSt V s → τ 28 i s.toNat < nu) → Q (.inl none) τ) : WP mX4_numberByLeast 0 [vR 5 i, vR 10 j, vU, vU, vU] [] σ Q := by
  have hL := hA.2.2.2.1
  have hcb := hV.cod
  have hstb : ∀ k : Nat, (k : Int) < σ 10 j 12 → 0 ≤ σ 61 j k ∧ σ 61 j k < 1024 := fun k hk => st_bd hV (hL.2.1 k hk)
  have hN := hL.1
  -- home of the k-th STATE
  have hkb : ∀ k : Nat, (k : Int) < σ 10 j 12 → σ 27 i (σ 61 j k).toNat < nu := fun k hk => by
    have := (hK.1 _ (hL.2.1 k hk) (hcl _ (hL.2.1 k hk))).2.1
    have e : hm σ i (σ 61 j k) = σ 27 i (σ 61 j k).toNat := rfl
    have := hK.2.2.2
    omega
  have hky : ∀ k : Nat, (k : Int) < σ 10 j 12 → σ 28 i (σ 61 j k).toNat < nu := fun k hk => by
    have := (hK.1 _ (hL.2.1 k hk) (hcl _ (hL.2.1 k hk))).2.2
    have e : tY σ i (σ 61 j k) = σ 28 i (σ 61 j k).toNat := rfl
    have := hK.2.2.2
    omega
  have hcod : σ 10 j 11 = cod V := hA.2.1.2
  refine b_X4_numberByLeast_0 (c_fillTo (by omega) rfl rfl (by omega) rfl ?_)
  show WP mX4_numberByLeast 12 [vR 5 i, vR 10 j, vU, vU, vU] [] _ Q
  refine b_X4_numberByLeast_12 ?_
  -- what the numbers give
  have last : ∀ τ (lw : Nat → Int), FR (nbP i) σ τ → NB nu (fun k => σ 27 i (σ 61 j k).toNat) (σ 10 j 12) lw (σ 10 j 12).toNat nu → (∀ k : Nat, (k : Int) < σ 10 j 12 → τ 27 i (σ 61 j k).toNat = (if σ 27 i (σ 61 j k).toNat < 0 then -1 else lw (σ 27 i (σ 61 j k).toNat).toNat) ∧ τ 28 i (σ 61 j k).toNat = (if σ 28 i (σ 61 j k).toNat < 0 then -6 else lw (σ 28 i (σ 61 j k).toNat).toNat)) → Q (.inl none) τ := by
    intro τ lw f1 hB hval
    obtain ⟨n1, n2, n3, n4, n5, n6⟩ := hB
    have vH : ∀ x, isSt V x → hm τ i x = if hm σ i x < 0 then -1 else lw (hm σ i x).toNat := fun x hx => by
      obtain ⟨k, k1, k2⟩ := hL.2.2.2.1 x hx
      rw [← k2]; exact (hval k k1).1
    have vY : ∀ x, isSt V x → τ 28 i x.toNat = if tY σ i x < 0 then -6 else lw (tY σ i x).toNat := fun x hx => by
      obtain ⟨k, k1, k2⟩ := hL.2.2.2.1 x hx
      rw [← k2]; exact (hval k k1).2
    have rs : ∀ x, Rst V x → 0 ≤ hm σ i x ∧ hm σ i x < nu := fun x hx => by
      rcases (hK.1 x hx.1 (hcl x hx.1)).2.1 with z | z
      · exact absurd hx z.2
      · exact ⟨z.1, z.2.1⟩
    have lwb : ∀ r, 0 ≤ r → r < nu → 0 ≤ lw r.toNat ∧ lw r.toNat < nu := fun r r0 r1 => by
      obtain ⟨x, x1, x2, x3, x4⟩ := hK.2.2.1 r r0 r1
      obtain ⟨k, k1, k2⟩ := hL.2.2.2.1 x x1
      have e : σ 27 i (σ 61 j k).toNat = r := by rw [k2]; exact x4
      have := n2 k (by omega) (by show 0 ≤ σ 27 i (σ 61 j k).toNat; omega)
      simp only [e] at this
      exact (n1 r.toNat (by omega)).resolve_left this
    have vR' : ∀ x, Rst V x → hm τ i x = lw (hm σ i x).toNat := fun x hx => by
      rw [vH x hx.1, if_neg (by have := rs x hx; omega)]
    have inj : ∀ r r', 0 ≤ r → r < nu → 0 ≤ r' → r' < nu → lw r.toNat = lw r'.toNat → r = r' := fun r r' h1 h2 h3 h4 h5 => by
      have := n3 r.toNat r'.toNat (by omega) (by omega) (by have := lwb r h1 h2; omega) h5
      omega
    have homeOK : HOME V (hm τ i) nu := by
      refine ⟨fun x hx => ?_, fun x y hx hy => ?_, fun x hx k k0 k1 => ?_, fun k k0 k1 => ?_, hK.2.2.2⟩
      · rcases (hK.1 x hx (hcl x hx)).2.1 with z | z
        · exact Or.inl ⟨by rw [vH x hx, if_pos (by omega)], z.2⟩
        · have := lwb _ z.1 z.2.1
          exact Or.inr ⟨by rw [vR' x z.2.2]; omega, by rw [vR' x z.2.2]; omega, z.2.2⟩
      · rw [vR' x hx, vR' y hy, ← hK.2.1 x y hx.1 hy.1 (hcl x hx.1) (hcl y hy.1) hx hy]
        have hx' := rs x hx
        have hy' := rs y hy
        exact ⟨inj _ _ hx'.1 hx'.2 hy'.1 hy'.2, fun z => by rw [z]⟩
      · rw [vR' x hx] at k1
        have hx' := rs x hx
        obtain ⟨a, a1, a2⟩ := hL.2.2.2.1 x hx.1
        have e : σ 27 i (σ 61 j a).toNat = hm σ i x := by rw [a2]; rfl
        have hq := n4 a a1 (by show 0 ≤ σ 27 i (σ 61 j a).toNat; omega) (by simp only [e]; have := lwb _ hx'.1 hx'.2; omega) k k0 (by simp only [e]; exact k1)
        obtain ⟨b, b1, b2, b3⟩ := hq
        have hbN : (b : Int) < σ 10 j 12 := by omega
        have hbs := hL.2.1 b hbN
        have b2' : 0 ≤ hm σ i (σ 61 j b) := b2
        have hbr : Rst V (σ 61 j b) := by
          rcases (hK.1 _ hbs (hcl _ hbs)).2.1 with z | z
          · omega
          · exact z.2.2
        exact ⟨σ 61 j b, hbr, by rw [← a2]; exact hL.2.2.1 b a b1 a1, by rw [vR' _ hbr]; exact b3⟩
      · obtain ⟨b, b1, b2, b3⟩ := n5 k k0 k1
        have hbN : (b : Int) < σ 10 j 12 := by omega
        have hbs := hL.2.1 b hbN
        have b2' : 0 ≤ hm σ i (σ 61 j b) := b2
        have hbr : Rst V (σ 61 j b) := by
          rcases (hK.1 _ hbs (hcl _ hbs)).2.1 with z | z
          · omega
          · exact z.2.2
        exact ⟨σ 61 j b, hbr, by rw [vR' _ hbr]; exact b3⟩
    refine h τ f1 homeOK (fun x hx k k0 => ?_) (fun x hx => ?_)
    · rcases (hK.1 x hx (hcl x hx)).2.2 with ⟨z, r, r', r1, r2, r3, r4, r5⟩ | ⟨z1, z2, z3⟩
      · rw [vY x hx, if_pos (by omega)]
        refine ⟨fun q => by omega, fun q => absurd ?_ r5⟩
        have e := (q r r1 r3).trans (q r' r2 r4).symm
        rw [vR' r r1, vR' r' r2] at e
        exact inj _ _ (rs r r1).1 (rs r r1).2 (rs r' r2).1 (rs r' r2).2 e
      · rw [vY x hx, if_neg (by omega)]
        have hb : BAS V (hm τ i) (lw (tY σ i x).toNat) x := fun u u1 u2 => by rw [vR' u u1, z3 u u1 u2]
        exact ⟨fun q => by rw [← q]; exact hb, fun q => BAS.un hV hx hb q⟩
    · rcases (hK.1 x hx (hcl x hx)).2.2 with ⟨z, _⟩ | ⟨z1, z2, z3⟩
      · rw [vY x hx, if_pos (by omega)]; have := hK.2.2.2; omega
      · rw [vY x hx, if_neg (by omega)]
        exact (lwb _ z1 z2).2
  -- second pass
  have p2 : ∀ (σ1 : St), FR (fun c i' _ => i' = i ∧ c = 33) σ σ1 → NB nu (fun k => σ 27 i (σ 61 j k).toNat) (σ 10 j 12) (σ1 33 i) (σ 10 j 12).toNat nu → ∀ n k : Nat, ((n + k : Nat) : Int) = σ 10 j 12 → ∀ τ, FR (nbP i) σ τ → τ 33 i = σ1 33 i → (∀ a : Nat, (a : Int) < σ 10 j 12 → (a < k → τ 27 i (σ 61 j a).toNat = (if σ 27 i (σ 61 j a).toNat < 0 then -1 else σ1 33 i (σ 27 i (σ 61 j a).toNat).toNat) ∧ τ 28 i (σ 61 j a).toNat = (if σ 28 i (σ 61 j a).toNat < 0 then -6 else σ1 33 i (σ 28 i (σ 61 j a).toNat).toNat)) ∧ (k ≤ a → τ 27 i (σ 61 j a).toNat = σ 27 i (σ 61 j a).toNat ∧ τ 28 i (σ 61 j a).toNat = σ 28 i (σ 61 j a).toNat)) → WP mX4_numberByLeast 72 [vR 5 i, vR 10 j, vU, vI (k : Int), vU] [] τ Q := by
    intro σ1 f0 hB n
    induction n with
    | zero =>
      intro k hk τ f1 f2 f3
      have e12 : τ 10 j 12 = σ 10 j 12 := f1 _ _ _ (fun z => by unfold nbP at z; omega)
      exact b_X4_numberByLeast_72 ⟨fun _ => last τ (σ1 33 i) f1 hB (fun a ha => (f3 a ha).1 (by omega)), fun z => by omega⟩
    | succ n ih =>
      intro k hk τ f1 f2 f3
      have e12 : τ 10 j 12 = σ 10 j 12 := f1 _ _ _ (fun z => by unfold nbP at z; omega)
      have e61 : τ 61 j k = σ 61 j k := f1 _ _ _ (fun z => by unfold nbP at z; omega)
      have hkN : (k : Int) < σ 10 j 12 := by omega
      have hb := hstb k hkN
      have hh := hkb k hkN
      have hy := hky k hkN
      obtain ⟨v1, v2⟩ := (f3 k hkN).2 (Nat.le_refl _)
      have go : ∀ w : Int, w = (if σ 27 i (σ 61 j k).toNat < 0 then -1 else σ1 33 i (σ 27 i (σ 61 j k).toNat).toNat) → WP mX4_numberByLeast 120 [vR 5 i, vR 10 j, vU, vI (k : Int), vI (σ 61 j k)] [vI w, vI (σ 61 j k), vR 27 i] τ Q := fun w hw => by
        have fin : ∀ y : Int, y = (if σ 28 i (σ 61 j k).toNat < 0 then -6 else σ1 33 i (σ 28 i (σ 61 j k).toNat).toNat) → WP mX4_numberByLeast 72 [vR 5 i, vR 10 j, vU, vI ((k : Int) + 1), vU] [] (up (up τ 27 i (σ 61 j k).toNat w) 28 i (σ 61 j k).toNat y) Q := fun y hy => by
          rw [show (k : Int) + 1 = ((k + 1 : Nat) : Int) by push_cast; rfl]
          refine ih (k + 1) (by omega) _ ((f1.u ⟨rfl, by omega⟩).u ⟨rfl, by omega⟩) (by rw [← f2]; funext x; simp [up]) (fun a ha => ?_)
          have e27 : ∀ x, (up (up τ 27 i (σ 61 j k).toNat w) 28 i (σ 61 j k).toNat y) 27 i x = if x = (σ 61 j k).toNat then w else τ 27 i x := fun x => by simp [up]
          have e28 : ∀ x, (up (up τ 27 i (σ 61 j k).toNat w) 28 i (σ 61 j k).toNat y) 28 i x = if x = (σ 61 j k).toNat then y else τ 28 i x := fun x => by simp [up]
          rw [e27, e28]
          by_cases c : a = k
          · subst c
            rw [if_pos rfl, if_pos rfl]
            exact ⟨fun _ => ⟨hw, hy⟩, fun z => by omega⟩
          · have ne : (σ 61 j a).toNat ≠ (σ 61 j k).toNat := by
              have h1 := hstb a ha
              rcases Nat.lt_or_gt_of_ne c with q | q
              · have := hL.2.2.1 a k q hkN; omega
              · have := hL.2.2.1 k a q ha; omega
            rw [if_neg ne, if_neg ne]
            exact ⟨fun z => (f3 a ha).1 (by omega), fun z => (f3 a ha).2 (by omega)⟩
        refine b_X4_numberByLeast_120 ?_
        rw [v2, f2]
        exact ⟨⟨by omega, by omega⟩, ⟨by omega, by omega⟩, fun z => ⟨⟨by omega, by omega⟩, ⟨by omega, by omega⟩, ⟨by omega, by omega⟩, by unfold in32; omega, fin _ (by rw [if_neg (by omega)])⟩, fun z => ⟨⟨by omega, by omega⟩, by unfold in32; omega, fin _ (by rw [if_pos (by omega)])⟩⟩
      refine b_X4_numberByLeast_72 ?_
      simp only [Int.toNat_natCast]
      rw [e61, e12, v1, f2]
      exact ⟨fun z => by omega, fun _ => ⟨⟨by omega, by omega⟩, ⟨by omega, by omega⟩, fun z => ⟨⟨by omega, by omega⟩, ⟨by omega, by omega⟩, go _ (by rw [if_neg (by omega)])⟩, fun z => go _ (by rw [if_pos (by omega)])⟩⟩
  -- first pass
  have p1 : ∀ n k : Nat, ((n + k : Nat) : Int) = σ 10 j 12 → ∀ τ m, FR (fun c i' _ => i' = i ∧ c = 33) σ τ → NB nu (fun k => σ 27 i (σ 61 j k).toNat) (σ 10 j 12) (τ 33 i) k m → WP mX4_numberByLeast 16 [vR 5 i, vR 10 j, vI m, vI (k : Int), vU] [] τ Q := by
    intro n
    induction n with
    | zero =>
      intro k hk τ m f1 hB
      have e12 : τ 10 j 12 = σ 10 j 12 := f1 _ _ _ (fun z => by omega)
      have em : m = nu := by
        have n0 := hK.2.2.2
        rw [hB.2.2.2.2.2, cnt_tt (P := fun r => τ 33 i r ≠ -1) (n := nu.toNat) (fun r hr => by
          obtain ⟨x, x1, x2, x3, x4⟩ := hK.2.2.1 (r : Int) (by omega) (by omega)
          obtain ⟨a, a1, a2⟩ := hL.2.2.2.1 x x1
          have e : σ 27 i (σ 61 j a).toNat = r := by rw [a2]; exact x4
          have := hB.2.1 a (by omega) (by show 0 ≤ σ 27 i (σ 61 j a).toNat; omega)
          simp only [e, Int.toNat_natCast] at this
          exact this)]
        omega
      rw [em] at hB
      rw [show k = (σ 10 j 12).toNat by omega] at hB
      refine b_X4_numberByLeast_16 ⟨fun _ => ?_, fun z => by omega⟩
      exact p2 τ f1 hB (σ 10 j 12).toNat 0 (by omega) τ (f1.wk (fun c a b z => ⟨z.1, by omega⟩)) rfl (fun a ha => ⟨fun z => by omega, fun _ => ⟨f1 _ _ _ (fun z => by omega), f1 _ _ _ (fun z => by omega)⟩⟩)
    | succ n ih =>
      intro k hk τ m f1 hB
      have e12 : τ 10 j 12 = σ 10 j 12 := f1 _ _ _ (fun z => by omega)
      have e61 : τ 61 j k = σ 61 j k := f1 _ _ _ (fun z => by omega)
      have e27 : τ 27 i (σ 61 j k).toNat = σ 27 i (σ 61 j k).toNat := f1 _ _ _ (fun z => by omega)
      have hkN : (k : Int) < σ 10 j 12 := by omega
      have hb := hstb k hkN
      have hh := hkb k hkN
      have hmb : m ≤ 1024 ∧ 0 ≤ m := by
        have := hB.2.2.2.2.2
        have := cnt_bd (fun r => τ 33 i r ≠ -1) nu.toNat
        omega
      refine b_X4_numberByLeast_16 ?_
      simp only [Int.toNat_natCast]
      rw [e61, e12, e27]
      refine ⟨fun z => by omega, fun _ => ⟨⟨by omega, by omega⟩, ⟨by omega, by omega⟩, fun z => ⟨by unfold in32; omega, ih (k + 1) (by omega) τ m f1 (hB.skip (fun q => by have : 0 ≤ σ 27 i (σ 61 j k).toNat := q; omega))⟩, fun z => ⟨⟨by omega, by omega⟩, fun q => ⟨by unfold in32; omega, ih (k + 1) (by omega) τ m f1 (hB.skip (fun _ => q))⟩, fun q => ⟨⟨by omega, by omega⟩, by unfold in32; omega, by unfold in32; omega, ?_⟩⟩⟩⟩
      exact ih (k + 1) (by omega) _ (m + 1) (f1.u ⟨rfl, rfl⟩) (hB.step (fun a ha => hkb a ha) hkN z q (fun r => by simp [up]))
  refine p1 (σ 10 j 12).toNat 0 (by omega) _ 0 (FR.rf.uR (fun k _ _ => ⟨rfl, rfl⟩)) ?_
  rw [hcod]
  have hn0 := hK.2.2.2
  have nuc : ∀ r : Nat, (r : Int) < nu → (upR σ 33 i 0 (min (cod V).toNat (al 33)) (fun _ => -1)) 33 i r = -1 := fun r hr => by
    have : (r : Int) < cod V := by omega
    unfold upR
    rw [if_pos ⟨rfl, rfl, by omega, by show r < 0 + min (cod V).toNat 1024; omega⟩]
  refine ⟨fun r hr => Or.inl (nuc r hr), fun k hk => by omega, fun r r' hr _ hn => absurd (nuc r hr) hn, fun k hk k0 hn => absurd (nuc _ (by have := hkb k hk; have k0' : 0 ≤ σ 27 i (σ 61 j k).toNat := k0; show (((σ 27 i (σ 61 j k).toNat).toNat : Nat) : Int) < nu; omega)) hn, fun v v0 v1 => by omega, ?_⟩
  rw [cnt_0 (P := fun r => upR σ 33 i 0 (min (cod V).toNat (al 33)) (fun _ => -1) 33 i r ≠ -1) (n := nu.toNat) (fun r hr z => z (nuc r (by omega)))]
  rfl
end CR4
