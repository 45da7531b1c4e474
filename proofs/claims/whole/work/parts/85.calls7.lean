/-! ===== right, partsOf ===== -/
theorem w32_add (a b : Int) : w32 (w32 a + b) = w32 (a + b) := by
  unfold w32
  rw [Int.bmod_add_bmod]
theorem sm_split {f : Nat → Int} {n : Nat} : ∀ m : Nat, n ≤ m → (∀ k, n ≤ k → k < m → f k = 0) → sm f m = sm f n := by
  intro m
  induction m with
  | zero => intro h _; rw [show n = 0 by omega]
  | succ m ih =>
    intro h hz
    by_cases e : n = m + 1
    · rw [e]
    · rw [sm, hz m (by omega) (by omega), ih (by omega) (fun k h1 h2 => hz k h1 (by omega))]; omega
section Calls7
variable {σ τ : St} {Q : Res → St → Prop} {V : Vy}
theorem PRC.mk2 {MC MM : MI} {lc lm : List AV} {R R' : Int → Prop} (hI : INV V σ) (hc : ∀ Q, (∀ τ x, FR kC σ τ → ILD V τ → ICC V τ → R x → Q (.inl (some (vI x))) τ) → WP MC 0 lc [] σ Q) (hm : ∀ τ Q, FR kC σ τ → IVV V τ → IMD V τ → (∀ υ x, FR kM τ υ → IMD V υ → R' x → Q (.inl (some (vI x))) υ) → WP MM 0 lm [] τ Q) (hu : ∀ x y, R x → R' y → x = y) : PRC MC MM lc lm σ := by
  refine hc _ (fun τ x f1 h1 h2 hR => ⟨x, rfl, hm τ _ f1 (hI.1.fr f1 (by unfold kC; omega)) (hI.2.2.2.2.2.1.fr f1 (by unfold kC; omega)) (fun υ y f2 h3 hR' => ⟨by rw [hu x y hR hR'], V, hI.ca ((f1.wk (fun c i j z => Or.inl z)).tr (f2.wk (fun c i j z => Or.inr z))) (h1.fr f2 (by unfold kM; omega)) (h2.fr f2 (by unfold kM; omega)) h3⟩)⟩)
theorem c_often {k : Int} {m : Nat} (hm : σ 7 0 1 = m) (hm2 : m ≤ 20) (h : Q (.inl (some (vI (cnt (fun i => σ 43 0 i = k) m : Nat)))) σ) : WP mX6_change 51 [vR 7 0, vU, vI k, vU, vI 0, vI 0] [] σ Q := by
  have key : ∀ r j : Nat, r + j = m → WP mX6_change 51 [vR 7 0, vU, vI k, vU, vI ((cnt (fun i => σ 43 0 i = k) j : Nat) : Int), vI (j : Int)] [] σ Q := by
    intro r
    induction r with
    | zero =>
      intro j hj
      have : j = m := by omega
      subst this
      exact b_X6_change_51 ⟨fun _ => h, fun z => by omega⟩
    | succ r ih =>
      intro j hj
      have hb := cnt_bd (fun i => σ 43 0 i = k) j
      have hn := ih (j + 1) (by omega)
      refine b_X6_change_51 ?_
      rw [Int.toNat_natCast]
      refine ⟨fun z => by omega, fun _ => ⟨by omega, fun z => ⟨by unfold in32; omega, ?_⟩, fun z => ⟨by unfold in32; omega, by unfold in32; omega, ?_⟩⟩⟩
      · rw [cnt_f (P := fun i => σ 43 0 i = k) z] at hn; exact hn
      · rw [cnt_t (P := fun i => σ 43 0 i = k) z] at hn; exact hn
  exact key m 0 (by omega)
theorem d_often {k : Int} {m : Nat} (hm : σ 14 0 84 = m) (hm2 : m ≤ 20) (h : Q (.inl (some (vI (cnt (fun i => σ 107 0 i = k) m : Nat)))) σ) : WP mX13_right 106 [vR 14 0, vU, vI k, vU, vI 0, vI 0] [] σ Q := by
  have key : ∀ r j : Nat, r + j = m → WP mX13_right 106 [vR 14 0, vU, vI k, vU, vI ((cnt (fun i => σ 107 0 i = k) j : Nat) : Int), vI (j : Int)] [] σ Q := by
    intro r
    induction r with
    | zero =>
      intro j hj
      have : j = m := by omega
      subst this
      exact b_X13_right_106 ⟨fun _ => h, fun z => by omega⟩
    | succ r ih =>
      intro j hj
      have hb := cnt_bd (fun i => σ 107 0 i = k) j
      have hn := ih (j + 1) (by omega)
      refine b_X13_right_106 ?_
      rw [Int.toNat_natCast]
      refine ⟨fun z => by omega, fun _ => ⟨by omega, fun z => ⟨by unfold in32; omega, by unfold in32; omega, ?_⟩, fun z => ⟨by unfold in32; omega, by unfold in32; omega, ?_⟩⟩⟩
      · rw [cnt_f (P := fun i => σ 107 0 i = k) z] at hn; rw [Int.add_zero]; exact hn
      · rw [cnt_t (P := fun i => σ 107 0 i = k) z] at hn; exact hn
  exact key m 0 (by omega)
theorem pr_right {t k s : Int} (hI : INV V σ) : PRC mX11_right mX13_right [vR 12 0, vI t, vI k, vI s] [vR 14 0, vI t, vI k, vI s, vU, vU] σ := by
  have hV := hI.1.1
  have hA := hI.1.2.1
  have hT := hI.1.2.2.1
  obtain ⟨s1, s2, s3, s4, s5, s6, s7, s8⟩ := hI.2.2.2.2.2.2.2.2.2.2.2
  by_cases g : (σ 7 0 2 ≤ t ∧ t ≤ 999) ∧ (0 ≤ k ∧ k < σ 7 0 0) ∧ isSt V s
  · obtain ⟨g1, g2, hs⟩ := g
    have mst : ∀ (τ : St) (Q : Res → St → Prop), τ 14 0 83 = σ 14 0 83 → τ 14 0 85 = σ 14 0 85 → MT τ V → WP mX13_right 37 [vR 14 0, vI t, vI k, vI s, vU, vU] [vI (b2 (isSt V s))] τ Q → WP mX13_right 0 [vR 14 0, vI t, vI k, vI s, vU, vU] [] τ Q := fun τ Q a1 a2 hT' hq => by
      refine b_X13_right_0 ?_
      rw [a1, a2]
      exact ⟨fun z => absurd ⟨by omega, g1.2⟩ z, fun _ => ⟨by unfold in64; omega, fun z => absurd ⟨g2.1, by omega⟩ z, fun _ => d_isState hV hT' hq⟩⟩
    refine b_X11_right_0 ⟨fun z => absurd g1 z, fun _ => ⟨fun z => absurd g2 z, fun _ => c_isState hV hA.1 hA.2.1 ?_⟩⟩
    show WP mX11_right 33 [vR 12 0, vI t, vI k, vI s] [vI (b2 (isSt V s))] σ _
    refine b_X11_right_33 ⟨fun _ => ⟨fun zf => ⟨-3, rfl, mst σ _ rfl rfl hT (b_X13_right_37 ⟨fun _ => ⟨fun z => by omega, fun _ => ⟨rfl, V, hI⟩⟩, fun z => absurd hs (b2_eq z)⟩)⟩, fun zf => ?_⟩, fun z => absurd hs (b2_eq z)⟩
    obtain ⟨n, hn⟩ : ∃ n : Nat, σ 7 0 1 = n := ⟨(σ 7 0 1).toNat, by omega⟩
    refine b_X6_change_0 ?_
    rw [hn, Int.toNat_natCast]
    refine ⟨by omega, by omega, by omega, by unfold in32; omega, ?_⟩
    have F1 : FR (fun c i j => i = 0 ∧ (c = 7 ∨ (43 ≤ c ∧ c ≤ 45))) σ (up (up (up (up (up σ 7 0 2 t) 43 0 n k) 44 0 n t) 45 0 n s) 7 0 1 ((n : Int) + 1)) := ((((FR.rf.u (by omega)).u (by omega)).u (by omega)).u (by omega)).u (by omega)
    have c43 : ∀ x, (up (up (up (up (up σ 7 0 2 t) 43 0 n k) 44 0 n t) 45 0 n s) 7 0 1 ((n : Int) + 1)) 43 0 x = if x = n then k else σ 43 0 x := fun x => by
      rw [up_c (by omega), up_c (by omega), up_c (by omega)]
      by_cases e : x = n
      · rw [if_pos e, e, up_s]
      · rw [if_neg e, up_j e, up_c (by omega)]
    have c44 : ∀ x, (up (up (up (up (up σ 7 0 2 t) 43 0 n k) 44 0 n t) 45 0 n s) 7 0 1 ((n : Int) + 1)) 44 0 x = if x = n then t else σ 44 0 x := fun x => by
      rw [up_c (by omega), up_c (by omega)]
      by_cases e : x = n
      · rw [if_pos e, e, up_s]
      · rw [if_neg e, up_j e, up_c (by omega), up_c (by omega)]
    have c45 : ∀ x, (up (up (up (up (up σ 7 0 2 t) 43 0 n k) 44 0 n t) 45 0 n s) 7 0 1 ((n : Int) + 1)) 45 0 x = if x = n then s else σ 45 0 x := fun x => by
      rw [up_c (by omega)]
      by_cases e : x = n
      · rw [if_pos e, e, up_s]
      · rw [if_neg e, up_j e, up_c (by omega), up_c (by omega), up_c (by omega)]
    have c71 : (up (up (up (up (up σ 7 0 2 t) 43 0 n k) 44 0 n t) 45 0 n s) 7 0 1 ((n : Int) + 1)) 7 0 1 = ((n + 1 : Nat) : Int) := up_s _ _ _ _ _
    have c70 : (up (up (up (up (up σ 7 0 2 t) 43 0 n k) 44 0 n t) 45 0 n s) 7 0 1 ((n : Int) + 1)) 7 0 0 = σ 7 0 0 := by rw [up_j (by omega), up_c (by omega), up_c (by omega), up_c (by omega), up_j (by omega)]
    have c72 : (up (up (up (up (up σ 7 0 2 t) 43 0 n k) 44 0 n t) 45 0 n s) 7 0 1 ((n : Int) + 1)) 7 0 2 = t := by rw [up_j (by omega), up_c (by omega), up_c (by omega), up_c (by omega), up_s]
    generalize (up (up (up (up (up σ 7 0 2 t) 43 0 n k) 44 0 n t) 45 0 n s) 7 0 1 ((n : Int) + 1)) = τ at *
    refine c_often (m := n + 1) c71 (by omega) ?_
    refine b_X11_right_61 ⟨_, rfl, ?_⟩
    have q14 : ∀ j, τ 14 0 j = σ 14 0 j := fun j => F1 14 0 j (fun z => by omega)
    have qc : ∀ c j, 46 ≤ c → τ c 0 j = σ c 0 j := fun c j hc => F1 c 0 j (fun z => by omega)
    refine mst τ _ (q14 _) (q14 _) (hT.fr F1 (fun c j hc z => by omega)) (b_X13_right_37 ⟨fun _ => ⟨fun _ => ?_, fun z => by rw [q14] at z; omega⟩, fun z => absurd hs (b2_eq z)⟩)
    rw [q14, show σ 14 0 84 = (n : Int) by omega, Int.toNat_natCast]
    refine ⟨by omega, by omega, by omega, by unfold in32; omega, ?_⟩
    have F2 : FR (fun c i j => i = 0 ∧ ((c = 14 ∧ (83 ≤ j ∧ j ≤ 85)) ∨ (107 ≤ c ∧ c ≤ 109))) τ (up (up (up (up (up τ 14 0 85 t) 107 0 n k) 108 0 n s) 109 0 n t) 14 0 84 ((n : Int) + 1)) := ((((FR.rf.u (by omega)).u (by omega)).u (by omega)).u (by omega)).u (by omega)
    have d107 : ∀ x, (up (up (up (up (up τ 14 0 85 t) 107 0 n k) 108 0 n s) 109 0 n t) 14 0 84 ((n : Int) + 1)) 107 0 x = if x = n then k else σ 107 0 x := fun x => by
      rw [up_c (by omega), up_c (by omega), up_c (by omega)]
      by_cases e : x = n
      · rw [if_pos e, e, up_s]
      · rw [if_neg e, up_j e, up_c (by omega)]; exact qc _ _ (by omega)
    have d108 : ∀ x, (up (up (up (up (up τ 14 0 85 t) 107 0 n k) 108 0 n s) 109 0 n t) 14 0 84 ((n : Int) + 1)) 108 0 x = if x = n then s else σ 108 0 x := fun x => by
      rw [up_c (by omega), up_c (by omega)]
      by_cases e : x = n
      · rw [if_pos e, e, up_s]
      · rw [if_neg e, up_j e, up_c (by omega), up_c (by omega)]; exact qc _ _ (by omega)
    have d109 : ∀ x, (up (up (up (up (up τ 14 0 85 t) 107 0 n k) 108 0 n s) 109 0 n t) 14 0 84 ((n : Int) + 1)) 109 0 x = if x = n then t else σ 109 0 x := fun x => by
      rw [up_c (by omega)]
      by_cases e : x = n
      · rw [if_pos e, e, up_s]
      · rw [if_neg e, up_j e, up_c (by omega), up_c (by omega), up_c (by omega)]; exact qc _ _ (by omega)
    have d84 : (up (up (up (up (up τ 14 0 85 t) 107 0 n k) 108 0 n s) 109 0 n t) 14 0 84 ((n : Int) + 1)) 14 0 84 = ((n + 1 : Nat) : Int) := up_s _ _ _ _ _
    have d83 : (up (up (up (up (up τ 14 0 85 t) 107 0 n k) 108 0 n s) 109 0 n t) 14 0 84 ((n : Int) + 1)) 14 0 83 = σ 14 0 83 := by rw [up_j (by omega), up_c (by omega), up_c (by omega), up_c (by omega), up_j (by omega)]; exact q14 _
    have d85 : (up (up (up (up (up τ 14 0 85 t) 107 0 n k) 108 0 n s) 109 0 n t) 14 0 84 ((n : Int) + 1)) 14 0 85 = t := by rw [up_j (by omega), up_c (by omega), up_c (by omega), up_c (by omega), up_s]
    generalize (up (up (up (up (up τ 14 0 85 t) 107 0 n k) 108 0 n s) 109 0 n t) 14 0 84 ((n : Int) + 1)) = υ at *
    have r7 : ∀ c j, c < 46 → c ≠ 14 → υ c 0 j = τ c 0 j := fun c j hc hne => F2 c 0 j (fun z => by omega)
    have r40 : ∀ c j, 40 ≤ c → c ≤ 42 → υ c 0 j = σ c 0 j := fun c j h1 h2 => by rw [r7 c j (by omega) (by omega)]; exact F1 c 0 j (fun z => by omega)
    have r104 : ∀ c j, 104 ≤ c → c ≤ 106 → υ c 0 j = σ c 0 j := fun c j h1 h2 => by rw [F2 c 0 j (fun z => by omega)]; exact qc c j (by omega)
    refine d_often (m := n + 1) d84 (by omega) ⟨?_, V, hI.sn ((F1.wk (fun c i j z => by omega)).tr (F2.wk (fun c i j z => by omega))) ?_⟩
    · rw [cnt_eq (P := fun i => υ 107 0 i = k) (Q := fun i => τ 43 0 i = k) (fun i hi => by
        rw [c43, d107]
        by_cases e : i = n
        · rw [if_pos e, if_pos e]
        · rw [if_neg e, if_neg e, (s8 i (by omega)).1])]
    · unfold ISN
      rw [r7 7 0 (by omega) (by omega), r7 7 1 (by omega) (by omega), r7 7 2 (by omega) (by omega), c70, c71, c72, d83, d84, d85]
      refine ⟨s1, rfl, rfl, s4, by omega, by omega, fun k' hk => ?_, fun k' hk => ?_⟩
      · rw [r40 40 k' (by omega) (by omega), r40 41 k' (by omega) (by omega), r40 42 k' (by omega) (by omega), r104 104 k' (by omega) (by omega), r104 105 k' (by omega) (by omega), r104 106 k' (by omega) (by omega)]
        exact s7 k' hk
      · rw [r7 43 k' (by omega) (by omega), r7 44 k' (by omega) (by omega), r7 45 k' (by omega) (by omega), c43, c44, c45, d107, d108, d109]
        by_cases e : k' = n
        · rw [if_pos e, if_pos e, if_pos e, if_pos e, if_pos e, if_pos e]; exact ⟨rfl, rfl, rfl, hs⟩
        · rw [if_neg e, if_neg e, if_neg e, if_neg e, if_neg e, if_neg e]; exact s8 k' (by omega)
  · exact PRC.same (-2) hI (fun Q h => b_X11_right_0 ⟨fun _ => h, fun g1 => ⟨fun _ => h, fun g2 => c_isState hV hA.1 hA.2.1 (b_X11_right_33 ⟨fun z => absurd ⟨g1, g2, b2_ne z⟩ g, fun _ => h⟩)⟩⟩) (fun Q h => b_X13_right_0 ⟨fun _ => h, fun g1 => ⟨by unfold in64; omega, fun _ => h, fun g2 => d_isState hV hT (b_X13_right_37 ⟨fun z2 => absurd ⟨⟨by omega, g1.2⟩, ⟨g2.1, by omega⟩, b2_ne z2⟩ g, fun _ => h⟩)⟩⟩)
/-! partsOf: sums that may wrap around -/
noncomputable def ps (V : Vy) (home : Int → Int) (k : Int) (f : Nat → Int) (s : Nat) : Int := @ite Int (isSt V (s : Int) ∧ home (s : Int) = k) (Classical.propDecidable _) (f s) 0
theorem ps_t {home : Int → Int} {k : Int} {f : Nat → Int} {s : Nat} (h : isSt V (s : Int) ∧ home (s : Int) = k) : ps V home k f s = f s := if_pos h
theorem ps_f {home : Int → Int} {k : Int} {f : Nat → Int} {s : Nat} (h : ¬ (isSt V (s : Int) ∧ home (s : Int) = k)) : ps V home k f s = 0 := if_neg h
theorem ps_cg {f' g' : Int → Int} {k : Int} {f g : Nat → Int} (hfg : ∀ s, isSt V s → f' s = g' s) (hf : ∀ s : Nat, isSt V (s : Int) → f s = g s) (m : Nat) : sm (ps V f' k f) m = sm (ps V g' k g) m := sm_congr (fun s _ => by
  by_cases h : isSt V (s : Int) ∧ f' (s : Int) = k
  · rw [ps_t h, ps_t ⟨h.1, by rw [← hfg _ h.1]; exact h.2⟩, hf s h.1]
  · rw [ps_f h, ps_f (fun z => h ⟨z.1, by rw [hfg _ z.1]; exact z.2⟩)])
theorem pr_partsOf {k : Int} (hI : INV V σ) : PRC mX11_partsOf mX13_partsOf [vR 12 0, vI k, vU, vU] [vR 14 0, vI k, vU, vU] σ := by
  have hV := hI.1.1
  have hcod := hV.cod
  have hpe := hV.pe
  have iff1 : σ 1 0 0 = 0 ↔ σ 14 0 71 = 0 := by
    rcases hI.2.2.2.2.2.2.2.2.1 with ⟨e1, e2⟩ | ⟨e1, e2, _⟩
    · exact ⟨fun _ => e2, fun _ => e1⟩
    · exact ⟨fun z => absurd z e1, fun z => absurd z e2⟩
  refine PRC.mk2 (R := RN (σ 1 0 0 ≠ 0 ∧ RR V k) (fun x => ∃ home n, HOME V home n ∧ x = w32 (sm (ps V home k (σ 20 0)) 1024))) (R' := RN (σ 1 0 0 ≠ 0 ∧ RR V k) (fun x => ∃ home n, HOME V home n ∧ x = w32 (sm (ps V home k (σ 101 0)) 1024))) hI (fun Q h => ?_) (fun τ Q f0 h1 h2 h => ?_) (fun x y => RN.un Iff.rfl (fun x y hP ⟨f, n, hf, e⟩ ⟨g, m, hg, e'⟩ => ?_))
  · refine b_X11_partsOf_0 (c_readyI hV hI.1.2.1 hI.2.2.2.1 hI.2.2.2.2.1 (fun τ f1 t1 t2 t3 t4 t5 t6 t7 => ?_))
    show WP mX11_partsOf 7 [vR 12 0, vI k, vU, vU] [] τ Q
    have e1 : τ 1 0 0 = σ 1 0 0 := f1 1 0 0 (fun z => by unfold kC at z; omega)
    have e20 : ∀ x, τ 20 0 x = σ 20 0 x := fun x => f1 20 0 x (fun z => by unfold kC at z; omega)
    refine b_X11_partsOf_7 ?_
    rw [e1]
    refine ⟨fun z => h τ _ f1 t6 t7 (Or.inr ⟨fun q => q.1 z, rfl⟩), fun z0 => ⟨fun z => ⟨by have := t3.2.1; omega, ?_⟩, fun z => h τ _ f1 t6 t7 (Or.inr ⟨fun q => z ((RR.iff hV t3.1).mp q.2), rfl⟩)⟩⟩
    obtain ⟨kn, rfl⟩ : ∃ n : Nat, k = n := ⟨k.toNat, by omega⟩
    have hn := t3.2.1
    have hm' := t3.2.2.2.1 (kn : Int) z.1 z.2
    unfold RSm at hm'
    rw [Int.toNat_natCast] at hm' ⊢
    obtain ⟨m1, m2, m3, m4, m5, m6⟩ := hm'
    have ew : w32 ((kn : Int) + 1) = ((kn + 1 : Nat) : Int) := by rw [w32_id (by unfold in32; omega)]; rfl
    have fin : Q (.inl (some (vI (w32 (sm (ps V (hm τ 0) kn (σ 20 0)) 1024))))) τ := h τ _ f1 t6 t7 (Or.inl ⟨⟨z0, (RR.iff hV t3.1).mpr z⟩, _, _, t3.1, rfl⟩)
    have key : ∀ r a : Nat, ((r + a : Nat) : Int) = τ 30 0 (kn + 1) → τ 30 0 kn ≤ a → ∀ x : Int, (∀ b : Nat, (a < τ 30 0 (kn + 1) → b = (τ 29 0 a).toNat) → (¬ (a : Int) < τ 30 0 (kn + 1) → b = 1024) → x = w32 (sm (ps V (hm τ 0) kn (σ 20 0)) b)) → WP mX11_partsOf 48 [vR 12 0, vI (kn : Int), vI x, vI (a : Int)] [] τ Q := by
      intro r
      induction r with
      | zero =>
        intro a ha ha2 x hx
        refine b_X11_partsOf_48 ?_
        rw [ew, Int.toNat_natCast]
        refine ⟨by omega, fun _ => ?_, fun z => by omega⟩
        rw [hx 1024 (fun q => by omega) (fun _ => rfl)]; exact fin
      | succ r ih =>
        intro a ha ha2 x hx
        have q := m4 a ha2 (by omega)
        have qb := st_bd hV q.1
        refine b_X11_partsOf_48 ?_
        rw [ew, Int.toNat_natCast, Int.toNat_natCast, e20]
        refine ⟨by omega, fun z => by omega, fun _ => ⟨by omega, qb, by unfold in32; omega, ih (a + 1) (by omega) (by omega) _ (fun b hb1 hb2 => ?_)⟩⟩
        rw [hx (τ 29 0 a).toNat (fun _ => rfl) (fun q => by omega), w32_add]
        refine congrArg w32 ?_
        have hb : (τ 29 0 a).toNat + 1 ≤ b ∧ ∀ y, (τ 29 0 a).toNat + 1 ≤ y → y < b → ¬ (isSt V (y : Int) ∧ hm τ 0 (y : Int) = kn) := by
          by_cases e : ((a + 1 : Nat) : Int) < τ 30 0 (kn + 1)
          · have hbe := hb1 e
            have q' := m4 (a + 1) (by omega) e
            have qb' := st_bd hV q'.1
            have := m5 a (a + 1) ha2 (by omega) e
            refine ⟨by omega, fun y hy1 hy2 hP => ?_⟩
            obtain ⟨c, c1, c2, c3⟩ := m6 _ hP.1 hP.2
            by_cases e2 : c ≤ a
            · by_cases e3 : c = a
              · rw [e3] at c3; omega
              · have := m5 c a c1 (by omega) (by omega); omega
            · by_cases e3 : c = a + 1
              · rw [e3] at c3; omega
              · have := m5 (a + 1) c (by omega) (by omega) c2; omega
          · have hbe := hb2 e
            refine ⟨by omega, fun y hy1 hy2 hP => ?_⟩
            obtain ⟨c, c1, c2, c3⟩ := m6 _ hP.1 hP.2
            by_cases e3 : c = a
            · rw [e3] at c3; omega
            · have := m5 c a c1 (by omega) (by omega); omega
        rw [sm_split (f := ps V (hm τ 0) kn (σ 20 0)) (n := (τ 29 0 a).toNat + 1) b hb.1 (fun y h1 h2 => ps_f (hb.2 y h1 h2)), sm, ps_t (by rw [show (((τ 29 0 a).toNat : Nat) : Int) = τ 29 0 a by omega]; exact q)]
    have hfirst := m4 (τ 30 0 kn).toNat (by omega) (by omega)
    have hfb := st_bd hV hfirst.1
    have := key (τ 30 0 (kn + 1) - τ 30 0 kn).toNat (τ 30 0 kn).toNat (by omega) (by omega) 0 (fun b hb1 _ => by
      have hb := hb1 (by omega)
      rw [sm_split (f := ps V (hm τ 0) kn (σ 20 0)) (n := 0) b (by omega) (fun y _ hy => ps_f (fun hP => ?_))]
      · rfl
      · obtain ⟨c, c1, c2, c3⟩ := m6 _ hP.1 hP.2
        by_cases e3 : c = (τ 30 0 kn).toNat
        · rw [e3] at c3; omega
        · have := m5 (τ 30 0 kn).toNat c (by omega) (by omega) c2; omega)
    rw [show (((τ 30 0 kn).toNat : Nat) : Int) = τ 30 0 kn by omega] at this
    exact this
  · have e71 : τ 14 0 71 = σ 14 0 71 := f0 14 0 71 (fun z => by unfold kC at z; omega)
    refine b_X13_partsOf_0 ?_
    rw [e71]
    refine ⟨fun z => h τ _ FR.rf h2 (Or.inr ⟨fun q => q.1 (iff1.mpr z), rfl⟩), fun z0 => d_isRestI h1 h2 (fun υ f1 u1 u2 u3 u4 => ?_)⟩
    show WP mX13_partsOf 12 [vR 14 0, vI k, vU, vU] [vI (b2 (0 ≤ k ∧ k < υ 14 0 51))] υ Q
    refine b_X13_partsOf_12 ⟨fun z => ?_, fun z => h υ _ f1 u4 (Or.inr ⟨fun q => b2_eq z ((RR.iff hV u3.1).mp q.2), rfl⟩)⟩
    have z' := b2_ne z
    have hT := u1.2.2.1
    have e77 : υ 77 0 (pe V).toNat = cod V := hT.2.2.2.2.2.2.2.1 (pe V).toNat (by omega)
    have e101 : ∀ x, υ 101 0 x = σ 101 0 x := fun x => by rw [f1 101 0 x (fun z => by unfold kM at z; omega)]; exact f0 101 0 x (fun z => by unfold kC at z; omega)
    have key : ∀ r y : Nat, ((r + y : Nat) : Int) = cod V → WP mX13_partsOf 21 [vR 14 0, vI k, vI (w32 (sm (ps V (ri υ) k (σ 101 0)) y)), vI (y : Int)] [] υ Q := by
      intro r
      induction r with
      | zero =>
        intro y hy
        refine b_X13_partsOf_21 ?_
        rw [hT.1, e77]
        refine ⟨by omega, fun _ => h υ _ f1 u4 (Or.inl ⟨⟨fun q => z0 (iff1.mp q), (RR.iff hV u3.1).mpr z'⟩, _, _, u3.1, ?_⟩), fun z => by omega⟩
        rw [sm_split (f := ps V (ri υ) k (σ 101 0)) (n := y) 1024 (by omega) (fun x hx1 hx2 => ps_f (fun hP => by have := hP.1.1; unfold inC at this; omega))]
      | succ r ih =>
        intro y hy
        have hn := ih (y + 1) (by omega)
        have hiff : υ 83 0 y = k ↔ isSt V (y : Int) ∧ ri υ (y : Int) = k := by
          refine ⟨fun e => ?_, fun e => e.2⟩
          by_cases hs : isSt V (y : Int)
          · exact ⟨hs, e⟩
          · have := u3.2.2.2.2.2.2 y (by omega) hs
            omega
        refine b_X13_partsOf_21 ?_
        rw [hT.1, e77, Int.toNat_natCast, e101]
        refine ⟨by omega, fun z => by omega, fun _ => ⟨by omega, fun hne => ⟨by unfold in32; omega, ?_⟩, fun he => ⟨by omega, by unfold in32; omega, ?_⟩⟩⟩
        · rw [sm, ps_f (fun q => hne (hiff.mpr q))] at hn
          rw [w32_add]; exact hn
        · rw [sm, ps_t (hiff.mp he)] at hn
          rw [w32_add]; exact hn
    have hc0 := cod_pos hV
    have := key (cod V).toNat 0 (by omega)
    exact this
  · rw [e, e']
    refine congrArg w32 ?_
    rcases hI.2.2.2.2.2.2.2.2.1 with ⟨e1, _⟩ | ⟨_, _, e3⟩
    · exact absurd e1 hP.1
    · exact ps_cg (hf.uniq hV hg).1 e3 1024
end Calls7
