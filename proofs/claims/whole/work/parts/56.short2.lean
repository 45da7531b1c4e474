/-! ===== SHORT: the class' aimAt, farthest, findShort; ready, reply; the model's make ===== -/
section Short2
variable {i : Nat} {σ : St} {Q : Res → St → Prop} {V : Vy} {s t : Int} {home F : Int → Int} {n : Int}
theorem c_aimAt {k : Int} (hV : VOK V) (hA : VA σ 0 V) (hR : REP σ 0 V) (hS : RS σ 0 V) (h0 : 0 ≤ k) (h1 : k < σ 5 0 0) (hAim : AIMOK σ V) (hD : DIST V (fun s => hm σ 0 s = k) F) (h : ∀ τ, FR amP σ τ → τ 12 0 15 = k → (∀ u, isSt V u → Kf τ 1 u = F u / 4096) → AIMOK τ V → Q (.inl none) τ) : WP mX11_aimAt 0 [vR 12 0, vI k] [] σ Q := by
  refine b_X11_aimAt_0 ⟨fun he => h σ FR.rf he (hAim k h0 he F hD) hAim, fun _ => ?_⟩
  refine c_toRest hV hA hR hS h0 h1 hD (fun τ f1 f2 => ?_)
  show WP mX11_aimAt 20 [vR 12 0, vI k] [] τ Q
  refine b_X11_aimAt_20 ?_
  have F1 : FR amP σ (up τ 12 0 15 k) := (f1.wk (fun c a b z => Or.inl z)).u (Or.inr ⟨rfl, rfl, rfl⟩)
  have eK : ∀ u, Kf (up τ 12 0 15 k) 1 u = Kf τ 1 u := fun u => kf_o (by omega)
  have eh : ∀ u, hm (up τ 12 0 15 k) 0 u = hm σ 0 u := fun u => F1 27 0 _ (fun z => by unfold amP at z; omega)
  refine h _ F1 (up_s _ _ _ _ _) (fun u hu => by rw [eK]; exact f2 u hu) (fun k' k0 hk' G hG u hu => ?_)
  rw [up_s] at hk'
  rw [eK, f2 u hu, hD.uniq hV (hG.cg (fun s hs => by rw [eh, hk'])) u hu]
theorem c_farthest {k : Int} (hV : VOK V) (hA : VA σ 0 V) (hR : REP σ 0 V) (hS : RS σ 0 V) (h0 : 0 ≤ k) (h1 : k < σ 5 0 0) (hAim : AIMOK σ V) (hD : DIST V (fun s => hm σ 0 s = k) F) (h : ∀ τ m, FR amP σ τ → AIMOK τ V → MXC V F m → Q (.inl (some (vI m))) τ) : WP mX11_farthest 0 [vR 12 0, vI k, vU, vU] [] σ Q := by
  refine b_X11_farthest_0 (c_aimAt hV hA hR hS h0 h1 hAim hD (fun τ f1 f2 f3 f4 => ?_))
  show WP mX11_farthest 5 [vR 12 0, vU, vU, vU] [] τ Q
  refine b_X11_farthest_5 ?_
  have hL := hA.2.2.2.1
  have hN := hL.1
  have e12 : τ 10 0 12 = σ 10 0 12 := f1 _ _ _ (fun z => by unfold amP at z; omega)
  have e61 : ∀ x, τ 61 0 x = σ 61 0 x := fun x => f1 _ _ _ (fun z => by unfold amP at z; omega)
  obtain ⟨s0, s1, s2⟩ := hS.1.2.2.2.1 k h0 h1
  have key : ∀ n a : Nat, ((n + a : Nat) : Int) = σ 10 0 12 → ∀ l, 0 ≤ l → (∀ b : Nat, b < a → F (σ 61 0 b) / 4096 ≤ l) → (l = 0 ∨ ∃ u, isSt V u ∧ F u / 4096 = l) → WP mX11_farthest 9 [vR 12 0, vU, vI l, vI (a : Int)] [] τ Q := by
    intro n
    induction n with
    | zero =>
      intro a ha l l0 hl hl2
      refine b_X11_farthest_9 ⟨fun _ => h τ l f1 f4 ⟨fun w hw => ?_, ?_⟩, fun z => by omega⟩
      · obtain ⟨b, b1, b2⟩ := hL.2.2.2.1 w hw
        rw [← b2]; exact hl b (by omega)
      · rcases hl2 with z | z
        · obtain ⟨b, b1, b2⟩ := hL.2.2.2.1 s0 s1.1
          have := hl b (by omega)
          rw [b2] at this
          have := (hD s0 s1.1).1
          exact ⟨s0, s1.1, by omega⟩
        · exact z
    | succ n ih =>
      intro a ha l l0 hl hl2
      have hst := hL.2.1 a (by omega)
      have hb := st_bd hV hst
      have hK : τ 37 1 (σ 61 0 a).toNat = F (σ 61 0 a) / 4096 := f3 _ hst
      have hF0 := (hD _ hst).1
      refine b_X11_farthest_9 ?_
      simp only [Int.toNat_natCast]
      rw [e61, e12, hK]
      refine ⟨fun z => by omega, fun _ => ⟨⟨by omega, by omega⟩, ⟨by omega, by omega⟩, by unfold in32; omega, ih (a + 1) (by omega) _ (by omega) (fun b hb' => ?_) ?_⟩⟩
      · by_cases e : b = a
        · rw [e]; omega
        · have := hl b (by omega); omega
      · by_cases e : l ≤ F (σ 61 0 a) / 4096
        · exact Or.inr ⟨σ 61 0 a, hst, by omega⟩
        · rw [show max l (F (σ 61 0 a) / 4096) = l by omega]; exact hl2
  exact key (σ 10 0 12).toNat 0 (by omega) 0 (by omega) (fun b hb => by omega) (Or.inl rfl)
theorem AIMOK.fr {P : Nat → Nat → Nat → Prop} {τ : St} (h : AIMOK σ V) (hFr : FR P σ τ) (hP : ¬ P 12 0 15 ∧ (∀ k, ¬ P 37 1 k) ∧ ∀ k, ¬ P 27 0 k) : AIMOK τ V := by
  have eh : hm τ 0 = hm σ 0 := by funext u; exact hFr 27 0 _ (hP.2.2 _)
  have eK : Kf τ 1 = Kf σ 1 := by funext u; exact hFr 37 1 _ (hP.2.1 _)
  unfold AIMOK
  rw [eh, eK, hFr 12 0 15 hP.1]
  exact h
theorem c_findShort (hV : VOK V) (hA : VA σ 0 V) (hR : REP σ 0 V) (hS : RS σ 0 V) (hAim : AIMOK σ V) (h : ∀ τ r, FR shP σ τ → AIMOK τ V → SHV V (hm σ 0) (σ 5 0 0) r → Q (.inl (some (vI r))) τ) : WP mX11_findShort 0 [vR 12 0, vU, vU, vU, vU] [] σ Q := by
  have hn := hS.2.1
  have hn0 := hS.1.2.2.2.2
  have hH := hS.1
  refine b_X11_findShort_0 ?_
  have key : ∀ m k : Nat, ((m + k : Nat) : Int) = σ 5 0 0 → ∀ (τ : St) (g fd : Int), FR shP σ τ → AIMOK τ V → (∀ k', 0 ≤ k' → k' < (k : Int) → ∃ r, RAD V (fun u => isSt V u ∧ hm σ 0 u = k') (BAS V (hm σ 0) k') r ∧ r ≠ -1 ∧ r ≤ g) → ((fd = -1 ∧ g = 0 ∧ k = 0) ∨ (0 ≤ fd ∧ fd < (k : Int) ∧ RAD V (fun u => isSt V u ∧ hm σ 0 u = fd) (BAS V (hm σ 0) fd) g ∧ 1 ≤ g)) → WP mX11_findShort 6 [vR 12 0, vI g, vI fd, vI (k : Int), vU] [] τ Q := by
    intro m
    have eh : ∀ υ, FR shP σ υ → hm υ 0 = hm σ 0 := fun υ f => by funext u; exact f _ _ _ (fun z => by unfold shP amP at z; omega)
    have e5 : ∀ υ, FR shP σ υ → υ 5 0 0 = σ 5 0 0 := fun υ f => f _ _ _ (fun z => by unfold shP amP at z; omega)
    have hA' : ∀ υ, FR shP σ υ → VA υ 0 V := fun υ f => hA.fr f (fun c k hc z => by unfold shP amP at z; omega)
    have hR' : ∀ υ, FR shP σ υ → REP υ 0 V := fun υ f => hR.fr f (fun k z => by unfold shP amP at z; omega)
    have hS' : ∀ υ, FR shP σ υ → RS υ 0 V := fun υ f => hS.fr f (fun c k hc z => by unfold shP amP at z; omega)
    induction m with
    | zero =>
      intro k hk τ g fd f1 f2 f3 f4
      refine b_X11_findShort_6 ⟨fun _ => ⟨fun hfd => ?_, fun hfd => ?_⟩, fun z => by rw [e5 τ f1] at z; omega⟩
      · rcases f4 with ⟨_, _, z⟩ | z
        · exact h τ (-1) f1 f2 (Or.inr ⟨rfl, fun k' k0 k1 => by omega⟩)
        · omega
      · obtain ⟨d0, d1, d2, d3⟩ := f4.resolve_left (fun z => hfd z.1)
        obtain ⟨s0, s1, s2⟩ := hH.2.2.2.1 fd d0 (by omega)
        obtain ⟨F, hD⟩ := dist_ex hV (Tg := fun s => hm σ 0 s = fd) s1.1 s2
        -- no other is SHORT
        have oth : ∀ k', 0 ≤ k' → k' < σ 5 0 0 → k' ≠ fd → ¬ Good V (hm σ 0) k' := fun k' k0 k1 kn hg => by
          obtain ⟨r', r1, r2⟩ := hg
          obtain ⟨r, q1, q2, q3⟩ := f3 k' k0 (by omega)
          have er := q1.un r1
          rcases r2 with z | ⟨G, m2, w1, w2, w3⟩
          · omega
          · have := rad_cor hV hH k0 d0 (by omega) k1 kn d2 w1 w2
            omega
        refine c_farthest (F := F) hV (hA' τ f1) (hR' τ f1) (hS' τ f1) d0 (by rw [e5 τ f1]; omega) f2 (by rw [eh τ f1]; exact hD) (fun υ m' u1 u2 u3 => ?_)
        show WP mX11_findShort 70 [vU, vU, vI fd, vU, vU] [vI m', vI g] υ Q
        have F2 : FR shP σ υ := f1.tr (u1.wk (fun c a b z => Or.inr z))
        refine b_X11_findShort_70 ⟨fun hle => h υ (-1) F2 u2 (Or.inr ⟨rfl, fun k' k0 k1 hg => ?_⟩), fun hlt => h υ fd F2 u2 (Or.inl ⟨d0, by omega, ⟨g, d2, Or.inr ⟨F, m', hD, u3, hlt⟩⟩, fun k' k0 k1 => oth k' k0 (by omega) (by omega)⟩)⟩
        by_cases e : k' = fd
        · rw [e] at hg
          obtain ⟨r', r1, r2⟩ := hg
          have er := d2.un r1
          rcases r2 with z | ⟨G, m2, w1, w2, w3⟩
          · omega
          · have := u3.un (hD.uniq hV w1) w2
            omega
        · exact oth k' k0 k1 e hg
    | succ m ih =>
      intro k hk τ g fd f1 f2 f3 f4
      refine b_X11_findShort_6 ⟨fun z => by rw [e5 τ f1] at z; omega, fun _ => ?_⟩
      refine c_leave hV (hA' τ f1) (hR' τ f1) (hS' τ f1) (by omega) (by rw [e5 τ f1]; omega) (fun υ r u1 hr => ?_)
      rw [eh τ f1] at hr
      have F2 : FR shP σ υ := f1.tr (u1.wk (fun c a b z => Or.inl z))
      have g2 : AIMOK υ V := f2.fr u1 ⟨fun z => by unfold sP at z; omega, fun k z => by unfold sP at z; omega, fun k z => by unfold sP at z; omega⟩
      have hpos := rad_pos hV hH (by omega) hr
      show WP mX11_findShort 32 [vR 12 0, vI g, vI fd, vI (k : Int), vU] [vI r] υ Q
      refine b_X11_findShort_32 ⟨fun hne => ⟨fun hle => ⟨by unfold in32; omega, ih (k + 1) (by omega) υ g fd F2 g2 (fun k' k0 k1 => ?_) ?_⟩, fun hgt => ⟨by unfold in32; omega, ih (k + 1) (by omega) υ r k F2 g2 (fun k' k0 k1 => ?_) (Or.inr ⟨by omega, by push_cast; omega, hr, by omega⟩)⟩⟩, fun hm1 => h υ k F2 g2 (Or.inl ⟨by omega, by omega, ⟨r, hr, Or.inl hm1⟩, fun k' k0 k1 hg => ?_⟩)⟩
      · by_cases e : k' = k
        · rw [e]; exact ⟨r, hr, hne, hle⟩
        · exact f3 k' k0 (by push_cast at k1; omega)
      · rcases f4 with ⟨z1, z2, z3⟩ | ⟨z1, z2, z3, z4⟩
        · omega
        · exact Or.inr ⟨z1, by push_cast; omega, z3, z4⟩
      · by_cases e : k' = k
        · rw [e]; exact ⟨r, hr, hne, by omega⟩
        · obtain ⟨r', q1, q2, q3⟩ := f3 k' k0 (by push_cast at k1; omega)
          exact ⟨r', q1, q2, by omega⟩
      · have := rad_one hV hH (by omega) (by omega) hr hm1 k' k0 (by omega)
        omega
  exact key (σ 5 0 0).toNat 0 (by omega) σ 0 (-1) FR.rf hAim (fun k' k0 k1 => by omega) (Or.inl ⟨rfl, rfl, rfl⟩)
/-! Land.ready -/
def rdP (i : Nat) (c i' j : Nat) : Prop := i' = i ∧ ((23 ≤ c ∧ c ≤ 36) ∨ c = 5 ∨ (c = 2 ∧ (j = 4 ∨ j = 5)))
def LOK (σ : St) (i : Nat) (V : Vy) : Prop := (σ 2 i 4 ≠ 0 → REP σ i V) ∧ (σ 2 i 5 ≠ 0 → RS σ i V ∧ RSz σ i V)
theorem RSz.fr {P : Nat → Nat → Nat → Prop} {τ : St} (h : RSz σ i V) (hFr : FR P σ τ) (hP : ∀ c k, c = 27 ∨ c = 30 ∨ (c = 5 ∧ k = 0) → ¬ P c i k) : RSz τ i V := by
  have g : ∀ c k, (c = 27 ∨ c = 30 ∨ (c = 5 ∧ k = 0)) → τ c i k = σ c i k := fun c k q => hFr c i k (hP c k q)
  intro k hk
  rw [g 5 0 (by omega)] at hk
  rw [g 30 _ (by omega), g 30 _ (by omega), h k hk, cnt_eq (P := fun s => isSt V (s : Int) ∧ σ 27 i s = k) (Q := fun s => isSt V (s : Int) ∧ τ 27 i s = k) (fun x _ => by rw [g 27 _ (by omega)])]
theorem c_replyL (hV : VOK V) (hA : VA σ i V) (hK : LOK σ i V) (h : ∀ τ b, FR (rdP i) σ τ → (∀ c k, c = 5 ∨ (27 ≤ c ∧ c ≤ 36) → τ c i k = σ c i k) → τ 2 i 5 = σ 2 i 5 → τ 2 i 4 ≠ 0 → REP τ i V → (b = 0 ∨ b = 1) → (σ 2 i 4 = 0 → (b = 0 ↔ REP σ i V)) → Q (.inl (some (vI b))) τ) : WP mX1_reply 0 [vR 2 i] [] σ Q := by
  refine b_X1_reply_0 ⟨fun he => ?_, fun hne => h σ 0 FR.rf (fun _ _ _ => rfl) rfl hne (hK.1 hne) (Or.inl rfl) (fun z => absurd z hne)⟩
  have fu : FR (rdP i) σ (up σ 2 i 4 1) := FR.rf.u ⟨rfl, by omega⟩
  have hA' : VA (up σ 2 i 4 1) i V := hA.fr fu (fun c k hc z => by unfold rdP at z; omega)
  refine c_fillR hV hA' (fun τ b f1 f2 f3 f4 => ?_)
  show WP mX1_reply 25 [vU] [vI b] τ Q
  have e24 : τ 2 i 4 = 1 := by rw [f1 2 i 4 (fun z => by unfold rP at z; omega), up_s]
  refine b_X1_reply_25 ⟨f3, h τ b (fu.tr (f1.wk (fun c a b z => ⟨z.1, by have := z.2; omega⟩))) (fun c k hc => ?_) ?_ (by omega) f2 f3 (fun _ => ?_)⟩
  · rw [f1 c i k (fun z => by unfold rP at z; omega), up_c (by omega)]
  · rw [f1 2 i 5 (fun z => by unfold rP at z; omega), up_j (by omega)]
  · rw [f4]
    exact ⟨fun z s hs p hp => by have := z s hs p hp; rw [up_c (by omega)] at this; exact this, fun z s hs p hp => by rw [up_c (by omega)]; exact z s hs p hp⟩
theorem c_ready (hV : VOK V) (hA : VA σ i V) (hK : LOK σ i V) (h : ∀ τ, FR (rdP i) σ τ → τ 2 i 4 ≠ 0 → τ 2 i 5 ≠ 0 → REP τ i V → RS τ i V → RSz τ i V → (σ 2 i 5 ≠ 0 → ∀ c k, c = 5 ∨ (27 ≤ c ∧ c ≤ 36) → τ c i k = σ c i k) → Q (.inl none) τ) : WP mX1_ready 0 [vR 2 i] [] σ Q := by
  refine b_X1_ready_0 (c_replyL hV hA hK (fun τ b f1 f2 f3 f4 f5 f6 f7 => ?_))
  show WP mX1_ready 4 [vR 2 i] [vI b] τ Q
  refine b_X1_ready_4 ⟨fun hne => ?_, fun he => ?_⟩
  · rw [f3] at hne
    obtain ⟨r1, r2⟩ := hK.2 hne
    have F' : FR (fun c i' j => i' = i ∧ ((23 ≤ c ∧ c ≤ 26) ∨ (c = 2 ∧ (j = 4 ∨ j = 5)))) σ τ := fun c a b z => by
      by_cases e : a = i ∧ (c = 5 ∨ (27 ≤ c ∧ c ≤ 36))
      · rw [e.1]; exact f2 c b e.2
      · exact f1 c a b (fun w => by unfold rdP at w; apply z; exact ⟨w.1, by omega⟩)
    exact h τ f1 f4 (by rw [f3]; exact hne) f5 (r1.fr F' (fun c k hc z => by have := z.2; omega)) (r2.fr F' (fun c k hc z => by have := z.2; omega)) (fun _ => f2)
  · have hA' : VA τ i V := hA.fr f1 (fun c k hc z => by unfold rdP at z; omega)
    refine c_find hV hA' f5 (fun υ u1 u2 u3 => ?_)
    show WP mX1_ready 20 [vR 2 i] [] υ Q
    have fu : FR (fun c i' j => i' = i ∧ c = 2 ∧ j = 5) υ (up υ 2 i 5 1) := FR.rf.u ⟨rfl, rfl, rfl⟩
    have e4 : υ 2 i 4 = τ 2 i 4 := u1 2 i 4 (fun z => by unfold rsP at z; omega)
    have hR' : REP υ i V := f5.fr u1 (fun k z => by unfold rsP at z; omega)
    refine b_X1_ready_20 (h _ ((f1.tr (u1.wk (fun c a b z => ⟨z.1, by have := z.2; omega⟩))).u ⟨rfl, by omega⟩) (by rw [up_j (by omega), e4]; exact f4) (by rw [up_s]; omega) (hR'.fr fu (fun k z => by omega)) (u2.fr fu (fun c k hc z => by omega)) (u3.fr fu (fun c k hc z => by omega)) (fun z => ?_))
    rw [← f3] at z
    exact absurd he z
/-! the model's make -/
def maP (c i j : Nat) : Prop := i = 0 ∧ ((78 ≤ c ∧ c ≤ 89) ∨ (c = 14 ∧ (j = 37 ∨ j = 50 ∨ j = 51)))
def MOK (σ : St) (V : Vy) : Prop := σ 14 0 37 ≠ 0 → MRP σ V ∧ MRS σ V
theorem d_make (hV : VOK V) (hT : MT σ V) (han : σ 14 0 12 = an V) (hK : MOK σ V) (h : ∀ τ, FR maP σ τ → τ 14 0 37 ≠ 0 → MRP τ V → MRS τ V → (σ 14 0 37 ≠ 0 → τ = σ) → Q (.inl none) τ) : WP mX13_make 0 [vR 14 0] [] σ Q := by
  refine b_X13_make_0 ⟨fun he => ?_, fun hne => h σ FR.rf hne (hK hne).1 (hK hne).2 (fun _ => rfl)⟩
  have fu : FR maP σ (up σ 14 0 37 1) := FR.rf.u ⟨rfl, by omega⟩
  have hT' : MT (up σ 14 0 37 1) V := hT.fr fu (fun c j hc z => by unfold maP at z; omega)
  rw [han]
  refine d_findAnswers hV hT' (fun τ f1 f2 => ?_)
  show WP mX13_make 21 [vR 14 0] [] τ Q
  have F1 : FR maP σ τ := fu.tr (f1.wk (fun c a b z => ⟨z.1, by have := z.2; omega⟩))
  have hT2 : MT τ V := hT.fr F1 (fun c j hc z => by unfold maP at z; omega)
  have e37 : τ 14 0 37 = 1 := by rw [f1 14 0 37 (fun z => by unfold fP at z; omega), up_s]
  refine b_X13_make_21 (d_findRests hV hT2 f2 (fun υ u1 u2 => ?_))
  show WP mX13_make 25 [vU] [] υ Q
  refine b_X13_make_25 (h υ (F1.tr (u1.wk (fun c a b z => ⟨z.1, by have := z.2; omega⟩))) ?_ (f2.fr u1 (fun c j hc z => by unfold frP at z; omega)) u2 (fun z => absurd he z))
  rw [u1 14 0 37 (fun z => by unfold frP at z; omega)]; omega
end Short2
