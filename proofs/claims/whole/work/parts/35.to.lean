/-! ===== toState, toRest; what the class' Rests hold ===== -/
def hm (σ : St) (j : Nat) (s : Int) : Int := σ 27 j s.toNat
def RSm (σ : St) (j : Nat) (V : Vy) (k : Int) : Prop := 0 ≤ σ 30 j k.toNat ∧ σ 30 j k.toNat < σ 30 j (k.toNat + 1) ∧ σ 30 j (k.toNat + 1) ≤ 1024 ∧ (∀ a : Nat, σ 30 j k.toNat ≤ a → (a : Int) < σ 30 j (k.toNat + 1) → isSt V (σ 29 j a) ∧ hm σ j (σ 29 j a) = k) ∧ (∀ a b : Nat, σ 30 j k.toNat ≤ a → a < b → (b : Int) < σ 30 j (k.toNat + 1) → σ 29 j a < σ 29 j b) ∧ (∀ s, isSt V s → hm σ j s = k → ∃ a : Nat, σ 30 j k.toNat ≤ a ∧ (a : Int) < σ 30 j (k.toNat + 1) ∧ σ 29 j a = s)
def RS (σ : St) (j : Nat) (V : Vy) : Prop := HOME V (hm σ j) (σ 5 j 0) ∧ σ 5 j 0 ≤ 1024 ∧ (∀ s, isSt V s → ∀ k, 0 ≤ k → (σ 28 j s.toNat = k ↔ BAS V (hm σ j) k s)) ∧ (∀ k, 0 ≤ k → k < σ 5 j 0 → RSm σ j V k) ∧ (∀ k : Nat, (k : Int) < σ 5 j 0 → σ 31 j k = (cnt (fun s => isSt V (s : Int) ∧ σ 28 j s = k) 1024 : Nat))
theorem RS.fr {P : Nat → Nat → Nat → Prop} {σ τ : St} {j : Nat} {V : Vy} (h : RS σ j V) (hFr : FR P σ τ) (hP : ∀ c k, (27 ≤ c ∧ c ≤ 31) ∨ (c = 5 ∧ k = 0) → ¬ P c j k) : RS τ j V := by
  have g : ∀ c k, ((27 ≤ c ∧ c ≤ 31) ∨ (c = 5 ∧ k = 0)) → τ c j k = σ c j k := fun c k q => hFr c j k (hP c k q)
  have eh : hm τ j = hm σ j := by funext s; exact g 27 _ (by omega)
  obtain ⟨h1, h2, h3, h4, h5⟩ := h
  refine ⟨by rw [eh, g 5 0 (by omega)]; exact h1, by rw [g 5 0 (by omega)]; exact h2, fun s hs k hk => by rw [eh, g 28 _ (by omega)]; exact h3 s hs k hk, fun k k0 k1 => ?_, fun k hk => ?_⟩
  · rw [g 5 0 (by omega)] at k1
    have := h4 k k0 k1
    unfold RSm at this ⊢
    rw [eh, g 30 _ (by omega), g 30 _ (by omega)]
    refine ⟨this.1, this.2.1, this.2.2.1, fun a a1 a2 => ?_, fun a b a1 a2 a3 => ?_, fun s hs hk => ?_⟩
    · rw [g 29 _ (by omega)]; exact this.2.2.2.1 a a1 a2
    · rw [g 29 _ (by omega), g 29 _ (by omega)]; exact this.2.2.2.2.1 a b a1 a2 a3
    · obtain ⟨a, a1, a2, a3⟩ := this.2.2.2.2.2 s hs hk
      exact ⟨a, a1, a2, by rw [g 29 _ (by omega)]; exact a3⟩
  · rw [g 5 0 (by omega)] at hk
    rw [g 31 _ (by omega), h5 k hk, cnt_eq (P := fun s => isSt V (s : Int) ∧ σ 28 j s = k) (Q := fun s => isSt V (s : Int) ∧ τ 28 j s = k) (fun s _ => by rw [g 28 _ (by omega)])]
section To
variable {i j : Nat} {σ : St} {Q : Res → St → Prop} {V : Vy} {s L : Int} {Tg : Int → Prop} {F : Int → Int}
theorem kf_upR {τ : St} {u : Int} {n : Nat} (hu : 0 ≤ u) (hn : u < n) : Kf (upR τ 37 i 0 n (fun _ => 1000000)) i u = 1000000 := by
  unfold Kf upR
  rw [if_pos ⟨rfl, rfl, by omega, by omega⟩]
theorem SI_start (hV : VOK V) (hD : DIST V Tg F) {t : Int} (ht : isSt V t) (hT : Tg t) {K : Int → Int} (hK : ∀ u, isSt V u → (Tg u → K u = 0) ∧ (¬ Tg u → K u = 1000000)) : SI V Tg F 0 K := by
  refine ⟨fun u hu => ?_, fun u w c hu hm hlt => ?_⟩
  · have h1 := hD.le hV ht hT u hu
    have h2 := (hD u hu).1
    by_cases e : Tg u
    · rw [(hK u hu).1 e, (hD u hu).2.1 e]
      exact ⟨by omega, by omega, fun z => by omega, fun _ => rfl⟩
    · rw [(hK u hu).2 e]
      exact ⟨by omega, by omega, fun z => by omega, fun z => absurd z e⟩
  · have := (hD w (hm.st hV hu)).1
    omega
theorem c_toState {t f : Int} (hV : VOK V) (hA : VA σ j V) (hR : REP σ j V) (ht : isSt V t) (hf : isSt V f) (hD : DIST V (fun s => s = t) F) (h : ∀ τ L, FR (sP i) σ τ → SI V (fun s => s = t) F L (Kf τ i) → F f / 4096 < L → Q (.inl (some (vI (F f / 4096)))) τ) : WP mX5_toState 0 [vR 6 i, vR 2 j, vI t, vI f, vU] [] σ Q := by
  have htb := st_bd hV ht
  have hfb := st_bd hV hf
  have hc := hV.cod
  have hc0 := cod_pos hV
  refine b_X5_toState_0 (c_fillTo (by omega) rfl rfl (by omega) rfl ?_)
  show WP mX5_toState 16 [vR 6 i, vR 2 j, vI t, vI f, vU] [] _ Q
  rw [hA.2.1.2]
  refine b_X5_toState_16 ⟨⟨by omega, by omega⟩, ?_⟩
  have key : ∀ (m : Nat) (L : Int) (τ : St), L + m = 31 → 0 ≤ L → FR (sP i) σ τ → SI V (fun s => s = t) F L (Kf τ i) → WP mX5_toState 26 [vR 6 i, vR 2 j, vU, vI f, vI L] [] τ Q := by
    intro m
    have fin : ∀ (L : Int) (τ : St), FR (sP i) σ τ → SI V (fun s => s = t) F L (Kf τ i) → F f / 4096 < L → Q (.inl (some (vI (τ 37 i f.toNat)))) τ := fun L τ t1 t2 hlt => by
      have e : τ 37 i f.toNat = F f / 4096 := (t2.1 f hf).2.2.1 hlt
      rw [e]
      exact h τ L t1 t2 hlt
    induction m with
    | zero =>
      intro L τ hL h0 t1 t2
      have := hD.le hV ht rfl f hf
      refine b_X5_toState_26 ⟨fun _ => ⟨⟨by omega, by omega⟩, fin L τ t1 t2 (by omega)⟩, fun z => by omega⟩
    | succ m ih =>
      intro L τ hL h0 t1 t2
      have hA' : VA τ j V := hA.fr t1 (fun c k hc z => by unfold sP at z; omega)
      have hR' : REP τ j V := hR.fr t1 (fun k z => by unfold sP at z; omega)
      refine b_X5_toState_26 ⟨fun z => by omega, fun _ => ⟨⟨by omega, by omega⟩, fun hlt => ⟨⟨by omega, by omega⟩, fin L τ t1 t2 (by have h1 := (t2.1 f hf).1; unfold Kf at h1; omega)⟩, fun hge => ?_⟩⟩
      refine c_settleBack hV hA' hR' hD h0 t2 (fun υ u1 u2 u3 => ?_)
      exact b_X5_toState_51 ⟨by unfold in32; omega, ih (L + 1) υ (by omega) (by omega) (t1.tr u1) u2⟩
  refine key 31 0 _ (by omega) (by omega) ((FR.rf.uR (fun k _ _ => ⟨rfl, by omega⟩)).u ⟨rfl, by omega⟩) (SI_start hV hD ht rfl (fun u hu => ?_))
  have hub := st_bd hV hu
  have huc := hu.1.2
  rw [kf_up hub.1 htb.1]
  refine ⟨fun e => if_pos e, fun e => ?_⟩
  rw [if_neg e, kf_upR hub.1]
  show u < ((min (cod V).toNat 1024 : Nat) : Int)
  omega
theorem c_seed {k : Int} (hV : VOK V) (hA : VA σ j V) (hS : RS σ j V) (h0 : 0 ≤ k) (h1 : k < σ 5 j 0) (h : ∀ τ, FR (sP i) σ τ → (∀ u, isSt V u → (hm σ j u = k → Kf τ i u = 0) ∧ (hm σ j u ≠ k → Kf τ i u = 1000000)) → Q (.inl none) τ) : WP mX5_seed 0 [vR 6 i, vR 2 j, vI k, vU] [] σ Q := by
  have hc := hV.cod
  have hn := hS.2.1
  have hm' := hS.2.2.2.1 k h0 h1
  refine b_X5_seed_0 (c_fillTo (by omega) rfl rfl (by omega) rfl ?_)
  rw [hA.2.1.2]
  refine b_X5_seed_16 ⟨⟨by omega, by omega⟩, ?_⟩
  have f0 : FR (sP i) σ (upR σ 37 i 0 (min (cod V).toNat (al 37)) (fun _ => 1000000)) := FR.rf.uR (fun k _ _ => ⟨rfl, by omega⟩)
  have key : ∀ (m : Nat) (a : Nat) (τ : St), ((m + a : Nat) : Int) = σ 30 j (k.toNat + 1) → σ 30 j k.toNat ≤ a → FR (sP i) σ τ → (∀ u, isSt V u → ((∃ b : Nat, σ 30 j k.toNat ≤ b ∧ b < a ∧ σ 29 j b = u) → Kf τ i u = 0) ∧ ((¬ ∃ b : Nat, σ 30 j k.toNat ≤ b ∧ b < a ∧ σ 29 j b = u) → Kf τ i u = 1000000)) → WP mX5_seed 26 [vR 6 i, vR 2 j, vI k, vI (a : Int)] [] τ Q := by
    intro m
    induction m with
    | zero =>
      intro a τ ha hs0 t1 t2
      have e30 : τ 30 j (k.toNat + 1) = σ 30 j (k.toNat + 1) := t1 _ _ _ (fun z => by unfold sP at z; omega)
      refine b_X5_seed_26 ?_
      rw [show (k + 1).toNat = k.toNat + 1 by omega, e30]
      refine ⟨by unfold in32; omega, ⟨by omega, by omega⟩, fun _ => h τ t1 (fun u hu => ⟨fun e => ?_, fun e => ?_⟩), fun z => by omega⟩
      · obtain ⟨b, b1, b2, b3⟩ := hm'.2.2.2.2.2 u hu e
        exact (t2 u hu).1 ⟨b, b1, by omega, b3⟩
      · refine (t2 u hu).2 (fun ⟨b, b1, b2, b3⟩ => e ?_)
        rw [← b3]
        exact (hm'.2.2.2.1 b b1 (by omega)).2
    | succ m ih =>
      intro a τ ha hs0 t1 t2
      have e30 : τ 30 j (k.toNat + 1) = σ 30 j (k.toNat + 1) := t1 _ _ _ (fun z => by unfold sP at z; omega)
      have e29 : τ 29 j a = σ 29 j a := t1 _ _ _ (fun z => by unfold sP at z; omega)
      have hst := (hm'.2.2.2.1 a hs0 (by omega)).1
      have hb := st_bd hV hst
      have hle := hm'.2.2.1
      refine b_X5_seed_26 ?_
      rw [show (k + 1).toNat = k.toNat + 1 by omega, e30, Int.toNat_natCast, e29]
      refine ⟨by unfold in32; omega, ⟨by omega, by omega⟩, fun z => by omega, fun _ => ⟨⟨by omega, by omega⟩, ⟨by omega, by omega⟩, by unfold in32; omega, ih (a + 1) _ (by omega) (by omega) (t1.u ⟨rfl, by omega⟩) (fun u hu => ?_)⟩⟩
      have hub := st_bd hV hu
      rw [kf_up hub.1 hb.1]
      by_cases e : u = σ 29 j a
      · rw [if_pos e]
        exact ⟨fun _ => rfl, fun z => absurd ⟨a, hs0, by omega, e.symm⟩ z⟩
      · rw [if_neg e]
        refine ⟨fun ⟨b, b1, b2, b3⟩ => (t2 u hu).1 ⟨b, b1, ?_, b3⟩, fun z => (t2 u hu).2 (fun ⟨b, b1, b2, b3⟩ => z ⟨b, b1, by omega, b3⟩)⟩
        apply Classical.byContradiction
        intro hn
        rw [show b = a by omega] at b3
        exact e b3.symm
  have s0 := hm'.1
  have s1 := hm'.2.1
  have e30' : (upR σ 37 i 0 (min (cod V).toNat (al 37)) (fun _ => 1000000)) 30 j k.toNat = σ 30 j k.toNat := f0 _ _ _ (fun z => by unfold sP at z; omega)
  rw [e30']
  have := key ((σ 30 j (k.toNat + 1)).toNat - (σ 30 j k.toNat).toNat) (σ 30 j k.toNat).toNat _ (by omega) (by omega) f0 (fun u hu => ⟨fun ⟨b, b1, b2, _⟩ => by omega, fun _ => kf_upR (st_bd hV hu).1 (by have := hu.1.2; show u < ((min (cod V).toNat 1024 : Nat) : Int); omega)⟩)
  rw [show (((σ 30 j k.toNat).toNat : Nat) : Int) = σ 30 j k.toNat by omega] at this
  exact this
theorem nst_eq (hV : VOK V) : cnt (fun k => isSt V (k : Int)) 1024 = cnt (fun k => isSt V (k : Int)) (cod V).toNat := by
  have := hV.cod
  exact cnt_ext (by omega) (fun k h1 h2 z => by have := z.1.2; omega)
theorem c_toRest {k : Int} (hV : VOK V) (hA : VA σ j V) (hR : REP σ j V) (hS : RS σ j V) (h0 : 0 ≤ k) (h1 : k < σ 5 j 0) (hD : DIST V (fun s => hm σ j s = k) F) (h : ∀ τ, FR (sP i) σ τ → (∀ u, isSt V u → Kf τ i u = F u / 4096) → Q (.inl none) τ) : WP mX5_toRest 0 [vR 6 i, vR 2 j, vI k, vU, vU] [] σ Q := by
  obtain ⟨t, ht, hk⟩ := hS.1.2.2.2.1 k h0 h1
  refine b_X5_toRest_0 (c_seed hV hA hS h0 h1 (fun τ0 f0 k0 => b_X5_toRest_6 ?_))
  have e12 : τ0 10 j 12 = σ 10 j 12 := f0 _ _ _ (fun z => by unfold sP at z; omega)
  rw [e12, hA.2.2.2.1.2.2.2.2, ← nst_eq hV]
  have key : ∀ (m : Nat) (L : Int) (τ : St), L + m = 31 → 0 ≤ L → FR (sP i) σ τ → SI V (fun s => hm σ j s = k) F L (Kf τ i) → ∀ x : Int, x = (cnt (fun k => isSt V (k : Int)) 1024 : Nat) - (cnt (fun k => isSt V (k : Int) ∧ F (k : Int) / 4096 < L) 1024 : Nat) → WP mX5_toRest 17 [vR 6 i, vR 2 j, vU, vI x, vI L] [] τ Q := by
    intro m
    have fin : ∀ (L : Int) (τ : St), FR (sP i) σ τ → SI V (fun s => hm σ j s = k) F L (Kf τ i) → (∀ u, isSt V u → F u / 4096 < L) → Q (.inl none) τ := fun L τ t1 t2 hlt => h τ t1 (fun u hu => (t2.1 u hu).2.2.1 (hlt u hu))
    induction m with
    | zero =>
      intro L τ hL hL0 t1 t2 x hx
      refine b_X5_toRest_17 ⟨fun _ => fin L τ t1 t2 (fun u hu => by have := hD.le hV ht.1 hk u hu; omega), fun z => by omega⟩
    | succ m ih =>
      intro L τ hL hL0 t1 t2 x hx
      have hA' : VA τ j V := hA.fr t1 (fun c k hc z => by unfold sP at z; omega)
      have hR' : REP τ j V := hR.fr t1 (fun k z => by unfold sP at z; omega)
      refine b_X5_toRest_17 ⟨fun z => by omega, fun _ => ⟨fun hx0 => fin L τ t1 t2 (fun u hu => ?_), fun hx0 => ?_⟩⟩
      · apply Classical.byContradiction
        intro hn
        have hub := st_bd hV hu
        have := cnt_lt (P := fun k => isSt V (k : Int) ∧ F (k : Int) / 4096 < L) (Q := fun k => isSt V (k : Int)) (m := u.toNat) (n := 1024) (by omega) (fun _ _ z => z.1) (by rw [show ((u.toNat : Nat) : Int) = u by omega]; exact hu) (by rw [show ((u.toNat : Nat) : Int) = u by omega]; exact fun z => hn z.2)
        omega
      · refine c_settleBack hV hA' hR' hD hL0 t2 (fun υ u1 u2 u3 => ?_)
        have hcc : cnt (fun k => isSt V (k : Int) ∧ F (k : Int) / 4096 < L + 1) 1024 = cnt (fun k => isSt V (k : Int) ∧ F (k : Int) / 4096 < L) 1024 + cnt (fun k => isSt V (k : Int) ∧ F (k : Int) / 4096 = L) 1024 := by
          rw [← cnt_or (P := fun k => isSt V (k : Int) ∧ F (k : Int) / 4096 < L) (Q := fun k => isSt V (k : Int) ∧ F (k : Int) / 4096 = L) (fun k _ z => by omega)]
          exact cnt_eq (fun k _ => ⟨fun z => by
            by_cases e : F (k : Int) / 4096 = L
            · exact Or.inr ⟨z.1, e⟩
            · exact Or.inl ⟨z.1, by omega⟩, fun z => z.elim (fun z => ⟨z.1, by omega⟩) (fun z => ⟨z.1, by omega⟩)⟩)
        have c1 := cnt_bd (fun k => isSt V (k : Int)) 1024
        have c2 := nL_bd V L (fun u => F u / 4096)
        have c3 : nL V L (fun u => F u / 4096) = (cnt (fun k => isSt V (k : Int) ∧ F (k : Int) / 4096 = L) 1024 : Nat) := rfl
        have c4 := cnt_bd (fun k => isSt V (k : Int) ∧ F (k : Int) / 4096 < L) 1024
        exact b_X5_toRest_36 ⟨by unfold in32; omega, by unfold in32; omega, ih (L + 1) υ (by omega) (by omega) (t1.tr u1) u2 _ (by rw [hcc, c3, hx]; push_cast; omega)⟩
  refine key 31 0 τ0 (by omega) (by omega) f0 (SI_start hV hD ht.1 hk (fun u hu => k0 u hu)) _ ?_
  have z0 : cnt (fun k => isSt V (k : Int) ∧ F (k : Int) / 4096 < 0) 1024 = 0 := cnt_0 (fun k _ z => by have := (hD _ z.1).1; omega)
  rw [z0]
  simp
end To
