/-! ===== gift ===== -/
section Give
variable {σ τ : St} {Q : Res → St → Prop} {V : Vy} {h n a b : Int}
theorem give_ge {j : Nat} : ge (giveV V h n) j = if (j : Int) / 4 = h ∧ (j : Int) % 4 < ha V then ge V j + n else ge V j := rfl
theorem give_0 : giveV V h 0 = V := by
  unfold giveV
  refine Prod.ext rfl (Prod.ext ?_ rfl)
  funext j
  show (if (j : Int) / 4 = h ∧ (j : Int) % 4 < V.1 1 then V.2.1 j + 0 else V.2.1 j) = V.2.1 j
  split
  · exact Int.add_zero _
  · rfl
theorem vok_give (hV : VOK V) (hh : 0 ≤ h ∧ h < ha V) (hg : ∀ x j : Nat, (x : Int) < ha V → (j : Int) < ha V → 0 ≤ ge V (4 * x + j) ∧ ge V (4 * x + j) ≤ 99) (h0 : 0 ≤ n) (h9 : n ≤ 99) : VOK (giveV V h n) := ⟨hV.1, hV.2.1, hV.2.2.1, hV.2.2.2.1, hV.2.2.2.2.1, fun j hj => by
  rw [give_ge]
  by_cases e : (j : Int) / 4 = h ∧ (j : Int) % 4 < ha V
  · rw [if_pos e]
    have := hg (j / 4) (j % 4) (by omega) (by omega)
    rw [show 4 * (j / 4) + j % 4 = j by omega] at this
    omega
  · rw [if_neg e]; exact hV.2.2.2.2.2.1 j hj, hV.2.2.2.2.2.2⟩
/-! the same ANSWERS: all is the same -/
theorem gE (hans : ∀ s, isSt V s → ∀ p : Nat, (p : Int) < pe V → ans (giveV V h a) s p = ans (giveV V h b) s p) {s t : Int} (hs : isSt V s) (hE : E (giveV V h a) s t) : E (giveV V h b) s t := by
  obtain ⟨p, hp, hk, x, x0, x1, hx, hb⟩ := hE
  exact ⟨p, hp, hk, x, x0, x1, hx, by rw [← hans s hs p hp]; exact hb⟩
theorem gR (hA : VOK (giveV V h a)) (hans : ∀ s, isSt V s → ∀ p : Nat, (p : Int) < pe V → ans (giveV V h a) s p = ans (giveV V h b) s p) {s t : Int} (hs : isSt V s) (hr : Rch (giveV V h a) s t) : Rch (giveV V h b) s t :=
  (hr (fun x => isSt V x ∧ Rch (giveV V h b) s x) ⟨hs, Rch.rf⟩ (fun x y hx hE => by
    have e : isSt (giveV V h a) y := E.st hA hx.1 hE
    exact ⟨e, hx.2.tr (Rch.one (gE hans hx.1 hE))⟩)).2
theorem gS (hA : VOK (giveV V h a)) (hB : VOK (giveV V h b)) (hans : ∀ s, isSt V s → ∀ p : Nat, (p : Int) < pe V → ans (giveV V h a) s p = ans (giveV V h b) s p) {s : Int} (hr : Rst (giveV V h a) s) : Rst (giveV V h b) s :=
  ⟨hr.1, fun t ht => by
    have h1 := gR hB (fun s hs p hp => (hans s hs p hp).symm) hr.1 ht
    have e : isSt (giveV V h a) t := h1.st hA hr.1
    exact gR hA hans e (hr.2 t h1)⟩
theorem gH (hA : VOK (giveV V h a)) (hB : VOK (giveV V h b)) (hans : ∀ s, isSt V s → ∀ p : Nat, (p : Int) < pe V → ans (giveV V h a) s p = ans (giveV V h b) s p) {f : Int → Int} {N : Int} (hH : HOME (giveV V h a) f N) : HOME (giveV V h b) f N := by
  have hans' : ∀ s, isSt V s → ∀ p : Nat, (p : Int) < pe V → ans (giveV V h b) s p = ans (giveV V h a) s p := fun s hs p hp => (hans s hs p hp).symm
  have fw : ∀ s, Rst (giveV V h a) s → Rst (giveV V h b) s := fun s z => gS hA hB hans z
  have bw : ∀ s, Rst (giveV V h b) s → Rst (giveV V h a) s := fun s z => gS hB hA hans' z
  obtain ⟨h1, h2, h3, h4, h5⟩ := hH
  refine ⟨fun s hs => (h1 s hs).imp (fun z => ⟨z.1, fun w => z.2 (bw s w)⟩) (fun z => ⟨z.1, z.2.1, fw s z.2.2⟩), fun s t hs ht => ?_, fun s hs k k0 k1 => ?_, fun k k0 k1 => ?_, h5⟩
  · rw [h2 s t (bw s hs) (bw t ht)]
    exact ⟨fun z => gR hA hans hs.1 z, fun z => gR hB hans' hs.1 z⟩
  · obtain ⟨t, t1, t2, t3⟩ := h3 s (bw s hs) k k0 k1
    exact ⟨t, fw t t1, t2, t3⟩
  · obtain ⟨t, t1, t2⟩ := h4 k k0 k1
    exact ⟨t, fw t t1, t2⟩
theorem gM (hans : ∀ s, isSt V s → ∀ p : Nat, (p : Int) < pe V → ans (giveV V h a) s p = ans (giveV V h b) s p) {s t c : Int} (hs : isSt V s) (hE : Mv (giveV V h a) s t c) : Mv (giveV V h b) s t c := by
  obtain ⟨p, hp, hk, x, x0, x1, hx, hb⟩ := hE
  exact ⟨p, hp, hk, x, x0, x1, hx, by rw [← hans s hs p hp]; exact hb⟩
theorem gD (hans : ∀ s, isSt V s → ∀ p : Nat, (p : Int) < pe V → ans (giveV V h a) s p = ans (giveV V h b) s p) {Tg : Int → Prop} {F : Int → Int} (hD : DIST (giveV V h a) Tg F) : DIST (giveV V h b) Tg F := fun s hs => by
  have hans' : ∀ s, isSt V s → ∀ p : Nat, (p : Int) < pe V → ans (giveV V h b) s p = ans (giveV V h a) s p := fun s hs p hp => (hans s hs p hp).symm
  obtain ⟨d1, d2, d3, d4⟩ := hD s hs
  refine ⟨d1, d2, fun t c hm => d3 t c (gM hans' hs hm), fun hn => ?_⟩
  obtain ⟨t, c, m1, m2⟩ := d4 hn
  exact ⟨t, c, gM hans hs m1, m2⟩
theorem gW {fr x : Int} (hA : VOK (giveV V h a)) (hB : VOK (giveV V h b)) (hans : ∀ s, isSt V s → ∀ p : Nat, (p : Int) < pe V → ans (giveV V h a) s p = ans (giveV V h b) s p) (hw : WON (giveV V h a) fr x) : WON (giveV V h b) fr x := by
  have hans' : ∀ s, isSt V s → ∀ p : Nat, (p : Int) < pe V → ans (giveV V h b) s p = ans (giveV V h a) s p := fun s hs p hp => (hans s hs p hp).symm
  obtain ⟨f, N, bb, h1, h2, ⟨f', N', w, L, w1, w2, w3, w4⟩, h4⟩ := hw
  exact ⟨f, N, bb, gH hA hB hans h1, h2, ⟨f', N', w, L, gH hA hB hans w1, w2, fun i j hi hj hne F hF s hs hsa => w3 i j hi hj hne F (gD hans' hF) s hs hsa, w4⟩, h4⟩
theorem GFT.un {x y : Int} (a : GFT V h x) (b : GFT V h y) : x = y := by
  obtain ⟨f, f1, f2⟩ := a
  obtain ⟨g, g1, g2⟩ := b
  have e := f1.un g1
  subst e
  rcases f2 with ⟨p1, p2⟩ | ⟨p0, p1, p2, p3⟩ <;> rcases g2 with ⟨q1, q2⟩ | ⟨q0, q1, q2, q3⟩
  · omega
  · exact absurd q2 (p2 y q0 q1)
  · exact absurd p2 (q2 x p0 p1)
  · rcases Int.lt_trichotomy x y with z | z | z
    · exact absurd p2 (q3 x p0 z)
    · exact z
    · exact absurd q2 (p3 y q0 z)
theorem c_give (hV : VOK V) (hA : VA σ 0 V) (hh : 0 ≤ h ∧ h < ha V) (hU : VOK (giveV V h n)) (hn : 0 ≤ n ∧ n ≤ 99) (hA1 : n ≠ 0 → VA σ 1 (giveV V h (n - 1))) (hk : ∀ τ b, FR bbP σ τ → VA τ 1 (giveV V h n) → REP τ 1 (giveV V h n) → τ 2 1 4 ≠ 0 → τ 2 1 5 = 0 → τ 2 1 6 = 0 → (b = 0 ∨ b = 1) → (b = 0 ↔ REP σ 1 (giveV V h n)) → Q (.inl (some (vI b))) τ) : WP mX11_giveInTrial 0 [vR 12 0, vI h, vI n, vU, vU] [] σ Q := by
  have hpe := hV.pe
  have hha := hV.ha
  have rest : ∀ (τ1 : St) (n0 : Int), FR (cpP 1) σ τ1 → VA τ1 1 (giveV V h n0) → WP mX11_giveInTrial 23 [vR 12 0, vI h, vI n, vR 10 1, vU] [] τ1 Q := fun τ1 n0 f1 a1 => by
    refine b_X11_giveInTrial_23 ?_
    have key : ∀ r j : Nat, ((r + j : Nat) : Int) = ha V → ∀ τ, FR (fun c i _ => c = 54 ∧ i = 1) τ1 τ → (∀ q, q < 16 → τ 54 1 q = if (q : Int) / 4 = h ∧ (q : Int) % 4 < j then ge V q + n else ge (giveV V h n0) q) → WP mX11_giveInTrial 26 [vR 12 0, vI h, vI n, vR 10 1, vI (j : Int)] [] τ Q := by
      intro r
      have e101 : ∀ τ, FR (fun c i _ => c = 54 ∧ i = 1) τ1 τ → τ 10 1 1 = ha V := fun τ f => by rw [f 10 1 1 (fun z => by omega)]; exact a1.1.ha
      have e54 : ∀ τ, FR (fun c i _ => c = 54 ∧ i = 1) τ1 τ → ∀ k, k < 16 → τ 54 0 k = ge V k := fun τ f k hk => by
        rw [f 54 0 k (fun z => by omega), f1 54 0 k (fun z => by unfold cpP at z; omega)]; exact hA.1.ge k hk
      induction r with
      | zero =>
        intro j hj τ f2 h54
        refine b_X11_giveInTrial_26 ⟨fun _ => b_X1_change_0 ?_, fun z => by rw [e101 τ f2] at z; omega⟩
        show WP mX11_giveInTrial 78 [vR 12 0, vU, vU, vU, vU] [] _ Q
        have g : ∀ c k, c ≠ 54 → τ c 1 k = τ1 c 1 k := fun c k hc => f2 c 1 k (fun z => hc z.1)
        obtain ⟨T, P, F, L, M⟩ := a1
        have a2 : VA τ 1 (giveV V h n) := by
          refine ⟨⟨by rw [g 10 0 (by omega)]; exact T.pe, by rw [g 10 1 (by omega)]; exact T.ha, by rw [g 10 2 (by omega)]; exact T.an, by rw [g 10 3 (by omega)]; exact T.sy, fun k hk => ?_, fun k hk => by rw [g 55 k (by omega)]; exact T.sl k hk, fun k hk => by rw [g 56 k (by omega)]; exact T.me k hk, fun k hk => by rw [g 57 k (by omega)]; exact T.ke k hk⟩, ⟨fun p hp => by rw [g 60 p (by omega)]; exact P.1 p hp, by rw [g 10 11 (by omega)]; exact P.2⟩, ?_, ?_, ?_⟩
          · rw [h54 k hk, give_ge, give_ge]
            by_cases e : (k : Int) / 4 = h ∧ (k : Int) % 4 < ha V
            · rw [if_pos ⟨e.1, by omega⟩, if_pos e]
            · rw [if_neg (fun z => e ⟨z.1, by omega⟩), if_neg e, if_neg e]
          · unfold VF
            rw [g 10 9 (by omega), g 10 10 (by omega)]; exact F
          · unfold VL
            rw [g 10 12 (by omega), show τ 61 1 = τ1 61 1 by funext k; exact g 61 k (by omega)]; exact L
          · unfold VM
            rw [g 10 13 (by omega), show τ 58 1 = τ1 58 1 by funext k; exact g 58 k (by omega), show τ 59 1 = τ1 59 1 by funext k; exact g 59 k (by omega)]; exact M
        have G2 : FR (fun c i _ => i = 1 ∧ c = 2) τ (up (up (up τ 2 1 4 0) 2 1 5 0) 2 1 6 0) := ((FR.rf.u (by omega)).u (by omega)).u (by omega)
        have e4 : (up (up (up τ 2 1 4 0) 2 1 5 0) 2 1 6 0) 2 1 4 = 0 := by rw [up_j (by omega), up_j (by omega), up_s]
        have e5 : (up (up (up τ 2 1 4 0) 2 1 5 0) 2 1 6 0) 2 1 5 = 0 := by rw [up_j (by omega), up_s]
        have e6 : (up (up (up τ 2 1 4 0) 2 1 5 0) 2 1 6 0) 2 1 6 = 0 := up_s _ _ _ _ _
        generalize (up (up (up τ 2 1 4 0) 2 1 5 0) 2 1 6 0) = τ4 at *
        have a4 : VA τ4 1 (giveV V h n) := a2.fr G2 (fun c k hc z => by omega)
        have F4 : FR (fun c i _ => i = 1 ∧ (c = 2 ∨ c = 10 ∨ (54 ≤ c ∧ c ≤ 61))) σ τ4 := ((f1.wk (fun c i j z => by unfold cpP at z; omega)).tr (f2.wk (fun c i j z => by omega))).tr (G2.wk (fun c i j z => by omega))
        have F4' : FR (fun c i _ => i = 1 ∧ (c = 2 ∨ c = 10 ∨ (54 ≤ c ∧ c ≤ 61))) τ4 σ := fun c i j z => (F4 c i j z).symm
        refine b_X11_giveInTrial_78 (c_replyL hU a4 ⟨fun z => absurd e4 z, fun z => absurd e5 z⟩ (fun τ5 b g1 _ s5 s4 r1 r2 r3 => ?_))
        refine b_X11_giveInTrial_85 ⟨r2, hk τ5 b ((F4.wk (fun c i j z => by unfold bbP; omega)).tr (g1.wk (fun c i j z => by unfold rdP at z; unfold bbP; omega))) (a4.fr g1 (fun c k hc z => by unfold rdP at z; omega)) r1 s4 (by rw [s5]; exact e5) (by rw [g1 2 1 6 (fun z => by unfold rdP at z; omega)]; exact e6) r2 ?_⟩
        rw [r3 e4]
        exact ⟨fun z => z.fr F4' (fun k z => by omega), fun z => z.fr F4 (fun k z => by omega)⟩
      | succ r ih =>
        intro j hj τ f2 h54
        have hgb := hV.ge (4 * h + j).toNat (by omega)
        refine b_X11_giveInTrial_26 ?_
        rw [e101 τ f2, e54 τ f2 _ (show (h * 4 + (j : Int)).toNat < 16 by omega)]
        rw [show (4 * h + (j : Int)).toNat = (h * 4 + (j : Int)).toNat by omega] at hgb
        refine ⟨fun z => by omega, fun _ => ⟨by unfold in32; omega, by unfold in32; omega, by unfold in32; omega, by unfold in32; omega, by omega, by unfold in32; omega, by omega, by unfold in32; omega, ih (j + 1) (by omega) _ (f2.u ⟨rfl, rfl⟩) (fun q hq => ?_)⟩⟩
        by_cases e : q = (h * 4 + (j : Int)).toNat
        · rw [e, up_s, if_pos ⟨by omega, by omega⟩]
        · rw [up_j e, h54 q hq]
          by_cases e2 : (q : Int) / 4 = h ∧ (q : Int) % 4 < j
          · rw [if_pos e2, if_pos ⟨e2.1, by omega⟩]
          · rw [if_neg e2, if_neg (fun z => by omega)]
    exact key (ha V).toNat 0 (by omega) τ1 FR.rf (fun q hq => by rw [if_neg (fun z => by omega)]; exact a1.1.ge q hq)
  refine b_X11_giveInTrial_0 ⟨fun z => rest σ (n - 1) FR.rf (hA1 z), fun z => c_copyFrom (by omega) hV hA.1 (fun τ1 f1 a1 _ => rest τ1 0 f1 (by rw [give_0]; exact a1))⟩
theorem INV.ca3 (hI : INV V σ) (f : FR (fun c i j => (kC c i j ∨ kM c i j) ∨ (c = 14 ∧ i = 0 ∧ j = 36)) σ τ) (h0 : IVV V τ) (h1 : ILD V τ) (h2 : ICC V τ) (h3 : IMD V τ) : INV V τ := by
  obtain ⟨a1, a2, a3, a4, a5, a6, a7, a8, a9, a10, a11, a12⟩ := hI
  refine ⟨h0, a2.fr f ?_, a3.fr f ?_, h1, h2, h3, a7.fr f ?_, a8.fr f ?_, a9.fr f ?_, a10.fr f ?_, a11.fr f ?_, a12.fr f ?_⟩ <;> (unfold kC kM; omega)
theorem PRC.mk3 {MC MM : MI} {lc lm : List AV} {R R' : Int → Prop} (hI : INV V σ) (hc : ∀ Q, (∀ τ x, FR kC σ τ → ILD V τ → ICC V τ → R x → Q (.inl (some (vI x))) τ) → WP MC 0 lc [] σ Q) (hm : ∀ τ Q, IVV V τ → IMD V τ → (∀ υ x, FR (fun c i j => kM c i j ∨ (c = 14 ∧ i = 0 ∧ j = 36)) τ υ → IVV V υ → IMD V υ → R' x → Q (.inl (some (vI x))) υ) → WP MM 0 lm [] τ Q) (hu : ∀ x y, R x → R' y → x = y) : PRC MC MM lc lm σ := by
  refine hc _ (fun τ x f1 h1 h2 hR => ⟨x, rfl, hm τ _ (hI.1.fr f1 (by unfold kC; omega)) (hI.2.2.2.2.2.1.fr f1 (by unfold kC; omega)) (fun υ y f2 h0 h3 hR' => ⟨by rw [hu x y hR hR'], V, hI.ca3 ((f1.wk (fun c i j z => Or.inl (Or.inl z))).tr (f2.wk (fun c i j z => z.elim (fun q => Or.inl (Or.inr q)) (fun q => Or.inr q)))) h0 (h1.fr f2 (by unfold kM; omega)) (h2.fr f2 (by unfold kM; omega)) h3⟩)⟩)
theorem pr_gift (hI : INV V σ) : PRC mX11_gift mX13_gift [vR 12 0, vI h, vU, vU, vU] [vR 14 0, vI h, vU, vU, vU, vU, vU] σ := by
  have hV := hI.1.1
  have hpe := hV.pe
  have hha := hV.ha
  have hcod := hV.cod
  have hg : ∀ x j : Nat, (x : Int) < ha V → (j : Int) < ha V → 0 ≤ ge V (4 * x + j) ∧ ge V (4 * x + j) ≤ 99 := fun x j hx hj => by
    have := hI.1.2.2.1.2.2.2.1 x j hx hj
    rw [hI.1.2.2.2.2.1, if_neg (fun z => by omega)] at this
    omega
  refine PRC.mk3 (R := RG (0 ≤ h ∧ h < ha V) (fun x => (6 < pe V ∧ x = -3) ∨ (pe V ≤ 6 ∧ GFT V h x))) (R' := RG (0 ≤ h ∧ h < ha V) (fun x => (6 < pe V ∧ x = -3) ∨ (pe V ≤ 6 ∧ GFT V h x))) hI (fun Q hq => ?_) (fun τ Q h1 h2 hq => ?_) (fun x y => RG.un Iff.rfl (fun x y _ a b => ?_))
  · have hA := hI.1.2.1
    have hC := hI.2.2.2.2.1
    have hfr : frN V (σ 10 0 9) := ⟨hA.2.2.1.1, hA.2.2.1.2.1⟩
    have go : ∀ x, RG (0 ≤ h ∧ h < ha V) (fun x => (6 < pe V ∧ x = -3) ∨ (pe V ≤ 6 ∧ GFT V h x)) x → Q (.inl (some (vI x))) σ := fun x hx => hq σ x FR.rf hI.2.2.2.1 hC hx
    refine b_X11_gift_0 ?_
    rw [hA.1.ha, hA.1.pe]
    refine ⟨fun zh => ⟨fun z6 => ⟨by omega, fun z9 => ?_, fun z9 => ⟨by omega, ?_⟩⟩, fun z6 => go _ (Or.inl ⟨zh, Or.inl ⟨z6, rfl⟩⟩)⟩, fun z => go _ (Or.inr ⟨z, rfl⟩)⟩
    · have vk : ∀ n, 0 ≤ n → n ≤ 99 → VOK (giveV V h n) := fun n h0 h9 => vok_give hV zh hg h0 h9
      have e109 : ∀ τ, FR bbP σ τ → τ 10 0 9 = σ 10 0 9 := fun τ f => f 10 0 9 (fun z => by unfold bbP at z; omega)
      have fin : ∀ (τ : St) (x : Int), FR bbP σ τ → GFT V h x → (0 ≤ h ∧ h < 4) ∧ Q (.inl (some (vI x))) (up τ 65 0 h.toNat x) := fun τ x f1 hB => by
        have g : FR (fun c i j => c = 65 ∧ i = 0) τ (up τ 65 0 h.toNat x) := FR.rf.u ⟨rfl, rfl⟩
        have c1 := hC.fr f1 (by unfold bbP; omega)
        refine ⟨by omega, hq _ x ((f1.wk (fun c i j => bbP_k)).u (by unfold kC; omega)) ((hI.2.2.2.1.fr f1 (by unfold bbP; omega)).fr g (by omega)) ⟨by rw [up_c (by omega)]; exact c1.1, by rw [up_c (by omega)]; exact c1.2.1, fun q hq' => ⟨by rw [up_c (by omega)]; exact (c1.2.2 q hq').1, ?_⟩⟩ (Or.inl ⟨zh, Or.inr ⟨z6, hB⟩⟩)⟩
        by_cases e : q = h.toNat
        · rw [e, up_s, show ((h.toNat : Nat) : Int) = h by omega]; exact Or.inr hB
        · rw [up_j e]; exact (c1.2.2 q hq').2
      have key : ∀ r n : Nat, r + n = 100 → ∀ τ : St, FR bbP σ τ → (∀ m, 0 ≤ m → m < (n : Int) → ¬ WON (giveV V h m) (σ 10 0 9) h) → (n ≠ 0 → VA τ 1 (giveV V h ((n : Int) - 1)) ∧ REP τ 1 (giveV V h ((n : Int) - 1))) → WP mX11_gift 57 [vR 12 0, vI h, vI (-1), vI (n : Int), vU] [] τ Q := by
        intro r
        induction r with
        | zero =>
          intro n hn τ f1 hno _
          exact b_X11_gift_57 ⟨fun _ => fin τ _ f1 ⟨_, hfr, Or.inl ⟨rfl, fun m h0 h9 => hno m h0 (by omega)⟩⟩, fun z => by omega⟩
        | succ r ih =>
          intro n hn τ f1 hno hpr
          have hUn := vk n (by omega) (by omega)
          refine b_X11_gift_57 ⟨fun z => by omega, fun _ => ⟨fun z => absurd rfl z, fun _ => ?_⟩⟩
          refine c_give hV (hA.fr f1 (fun c k hc z => by unfold bbP at z; omega)) zh hUn ⟨by omega, by omega⟩ (fun z => (hpr (by omega)).1) (fun υ b u1 u2 u3 u4 u5 u6 b01 hb => ?_)
          show WP mX11_gift 74 [vR 12 0, vI h, vI (-1), vI (n : Int), vU] [vI b] υ Q
          have F2 : FR bbP σ υ := f1.tr u1
          have nx : ∀ ω, FR bbP σ ω → VA ω 1 (giveV V h n) → REP ω 1 (giveV V h n) → ¬ WON (giveV V h n) (σ 10 0 9) h → in32 ((n : Int) + 1) ∧ WP mX11_gift 57 [vR 12 0, vI h, vI (-1), vI ((n : Int) + 1), vU] [] ω Q := fun ω fo o1 o2 hw => by
            refine ⟨by unfold in32; omega, ih (n + 1) (by omega) ω fo (fun m h0 hlt => ?_) (fun _ => ?_)⟩
            · by_cases e : m = n
              · rw [e]; exact hw
              · exact hno m h0 (by push_cast at hlt; omega)
            · rw [show ((n + 1 : Nat) : Int) - 1 = (n : Int) by omega]
              exact ⟨o1, o2⟩
          have wins : WP mX11_winsAlone 0 [vR 12 0, vI h, vU, vU, vU] [] υ (CT mX11_gift 90 [vR 12 0, vI h, vI (-1), vI (n : Int), vU] [] Q) := by
            refine c_winsAlone hUn u2 u3 u4 u5 u6 (by rw [e109 υ F2]; exact hfr.1) zh (fun p hp => ?_) (fun p hp hb => ?_) (fun ω o1 o2 => ?_)
            · rw [e109 υ F2, hfr.2 p]
              by_cases e2 : ke V p = -1
              · exact Or.inl ⟨hp, e2⟩
              · exact Or.inr e2
            · rw [e109 υ F2] at hb
              exact Or.inl ((hfr.2 p).mp hb).2
            · rw [e109 υ F2]
              show WP mX11_gift 90 [vR 12 0, vI h, vI (-1), vI (n : Int), vU] [vI (b2 (WON (giveV V h n) (σ 10 0 9) h))] ω Q
              have F3 : FR bbP σ ω := F2.tr (o1.wk (fun c i j => waP_b))
              refine b_X11_gift_90 ⟨fun z => nx ω F3 (u2.fr o1 (fun c k hc z => by unfold waP at z; omega)) o2 (b2_eq z), fun z => ⟨by unfold in32; omega, ?_⟩⟩
              have hB : GFT V h n := ⟨_, hfr, Or.inr ⟨by omega, by omega, b2_ne z, hno⟩⟩
              exact b_X11_gift_57 ⟨fun _ => fin ω _ F3 hB, fun _ => ⟨fun _ => fin ω _ F3 hB, fun z => by omega⟩⟩
          refine b_X11_gift_74 ⟨fun _ => wins, fun z0 => ⟨fun zb => nx υ F2 u2 u3 (fun w => ?_), fun _ => wins⟩⟩
          have hp := hpr (by omega)
          have hr := hb.mp zb
          refine hno ((n : Int) - 1) (by omega) (by omega) (gW hUn (vk _ (by omega) (by omega)) (fun s hs p hp' => ?_) w)
          have q1 := hr s hs p hp'
          have q2 := hp.2 s hs p hp'
          have q3 : hab (giveV V h n) s p = hab (giveV V h ((n : Int) - 1)) s p := rfl
          omega
      exact key 100 0 (by omega) σ FR.rf (fun m h0 hlt => by omega) (fun z => absurd rfl z)
    · have := (hC.2.2 h.toNat (by omega)).2.resolve_left z9
      rw [show ((h.toNat : Nat) : Int) = h by omega] at this
      exact go _ (Or.inl ⟨zh, Or.inr ⟨z6, this⟩⟩)
  · have hT0 := h1.2.2.1
    have go0 : ∀ x, RG (0 ≤ h ∧ h < ha V) (fun x => (6 < pe V ∧ x = -3) ∨ (pe V ≤ 6 ∧ GFT V h x)) x → Q (.inl (some (vI x))) τ := fun x hx => hq τ x FR.rf h1 h2 hx
    refine b_X13_gift_0 ?_
    rw [hT0.2.1, hT0.1]
    refine ⟨by unfold in64; omega, fun zh => ⟨fun z6 => ?_, fun z6 => go0 _ (Or.inl ⟨⟨zh.1, by omega⟩, Or.inl ⟨z6, rfl⟩⟩)⟩, fun z => go0 _ (Or.inr ⟨fun q => z ⟨q.1, by omega⟩, rfl⟩)⟩
    have zh' : 0 ≤ h ∧ h < ha V := ⟨zh.1, by omega⟩
    have vk : ∀ n, 0 ≤ n → n ≤ 99 → VOK (giveV V h n) := fun n h0 h9 => vok_give hV zh' hg h0 h9
    refine d_freeSet hV hT0 (fun fr hfr => ?_)
    show WP mX13_gift 27 [vR 14 0, vI h, vU, vU, vU, vU, vU] [vI fr] τ Q
    refine b_X13_gift_27 ?_
    have ged : ∀ x j : Nat, (x : Int) < ha V → (j : Int) < ha V → τ 67 0 (4 * x + j) = ge V (4 * x + j) := fun x j hx hj => by
      have := (hT0.2.2.2.1 x j hx hj).1
      rw [h1.2.2.2.2.1, if_neg (fun z => by omega), Int.add_zero] at this
      exact this
    have mtU : ∀ (υ : St) (n : Int), 0 ≤ n → n ≤ 99 → FR (fun c i j => kM c i j ∨ (c = 14 ∧ i = 0 ∧ (j = 35 ∨ j = 36))) τ υ → υ 14 0 35 = h → υ 14 0 36 = n → MT υ (giveV V h n) := fun υ n n0 n9 f e35 e36 => by
      have g : ∀ c j, (c = 14 ∧ (j = 10 ∨ j = 11 ∨ j = 17)) ∨ c = 67 ∨ c = 69 ∨ c = 71 ∨ c = 73 ∨ c = 77 → υ c 0 j = τ c 0 j := fun c j hc => f c 0 j (fun z => by unfold kM at z; omega)
      obtain ⟨q1, q2, q3, q4, q5, q6, q7, q8, q9⟩ := hT0
      refine ⟨by rw [g 14 10 (by omega)]; exact q1, by rw [g 14 11 (by omega)]; exact q2, by rw [g 14 17 (by omega)]; exact q3, fun x j hx hj => ?_, fun j hj => by rw [g 73 j (by omega)]; exact q5 j hj, fun j hj => by rw [g 69 j (by omega)]; exact q6 j hj, fun j hj => by rw [g 71 j (by omega)]; exact q7 j hj, fun p hp => by rw [g 77 p (by omega)]; exact q8 p hp, by rw [e36]; exact ⟨n0, n9⟩⟩
      have hx' : (x : Int) < ha V := hx
      have hj' : (j : Int) < ha V := hj
      have hgx := hg x j hx' hj'
      rw [g 67 _ (by omega), e35, e36, give_ge, ged x j hx' hj']
      refine ⟨?_, hgx.1, hgx.2⟩
      by_cases e : (x : Int) = h
      · rw [if_pos e, if_pos ⟨by omega, by omega⟩]
      · rw [if_neg e, if_neg (fun z => by omega), Int.add_zero]
    have fin : ∀ (υ : St) (x : Int), FR (fun c i j => kM c i j ∨ (c = 14 ∧ i = 0 ∧ (j = 35 ∨ j = 36))) τ υ → (0 ≤ υ 14 0 36 ∧ υ 14 0 36 ≤ 99) → GFT V h x → Q (.inl (some (vI x))) (up (up υ 14 0 35 (-1)) 14 0 37 0) := fun υ x f h36 hB => by
      have e35 : (up (up υ 14 0 35 (-1)) 14 0 37 0) 14 0 35 = -1 := by rw [up_j (by omega), up_s]
      have e36 : (up (up υ 14 0 35 (-1)) 14 0 37 0) 14 0 36 = υ 14 0 36 := by rw [up_j (by omega), up_j (by omega)]
      have e37 : (up (up υ 14 0 35 (-1)) 14 0 37 0) 14 0 37 = 0 := up_s _ _ _ _ _
      have F0 : FR (fun c i j => kM c i j ∨ (c = 14 ∧ i = 0 ∧ (j = 35 ∨ j = 36))) τ (up (up υ 14 0 35 (-1)) 14 0 37 0) := (f.u (Or.inr ⟨rfl, rfl, by omega⟩)).u (Or.inl (by unfold kM; omega))
      generalize (up (up υ 14 0 35 (-1)) 14 0 37 0) = ω at *
      have F1 : FR (fun c i j => kM c i j ∨ (c = 14 ∧ i = 0 ∧ j = 36)) τ ω := fun c i j z => by
        by_cases e : c = 14 ∧ i = 0 ∧ j = 35
        · rw [e.1, e.2.1, e.2.2, e35, h1.2.2.2.2.1]
        · exact F0 c i j (fun w => z (w.elim Or.inl (fun w => Or.inr (by omega))))
      have g : ∀ c j, c = 10 ∨ (54 ≤ c ∧ c ≤ 61) ∨ (c = 14 ∧ ((10 ≤ j ∧ j ≤ 13) ∨ j = 17 ∨ j = 35)) ∨ c = 67 ∨ c = 69 ∨ c = 71 ∨ c = 73 ∨ c = 77 → ω c 0 j = τ c 0 j := fun c j hc => F1 c 0 j (fun z => by unfold kM at z; omega)
      obtain ⟨q1, q2, q3, q4, q5, q6, q7, q8, q9⟩ := hT0
      have hT' : MT ω V := by
        refine ⟨by rw [g 14 10 (by omega)]; exact q1, by rw [g 14 11 (by omega)]; exact q2, by rw [g 14 17 (by omega)]; exact q3, fun x j hx hj => ?_, fun j hj => by rw [g 73 j (by omega)]; exact q5 j hj, fun j hj => by rw [g 69 j (by omega)]; exact q6 j hj, fun j hj => by rw [g 71 j (by omega)]; exact q7 j hj, fun p hp => by rw [g 77 p (by omega)]; exact q8 p hp, by rw [e36]; exact h36⟩
        have hgx := hg x j hx hj
        rw [g 67 _ (by omega), e35, ged x j hx hj, if_neg (fun z => by omega), Int.add_zero]
        exact ⟨rfl, hgx.1, hgx.2⟩
      refine hq ω x F1 ⟨hV, h1.2.1.fr F1 (fun c k hc z => by unfold kM at z; omega), hT', by rw [g 14 12 (by omega)]; exact h1.2.2.2.1, e35, ?_⟩ (fun z => absurd e37 z) (Or.inl ⟨zh', Or.inr ⟨z6, hB⟩⟩)
      rw [g 10 4 (by omega), g 14 13 (by omega)]; exact h1.2.2.2.2.2
    have key : ∀ r n : Nat, r + n = 100 → ∀ υ : St, FR (fun c i j => kM c i j ∨ (c = 14 ∧ i = 0 ∧ (j = 35 ∨ j = 36))) τ υ → υ 14 0 35 = h → (0 ≤ υ 14 0 36 ∧ υ 14 0 36 ≤ 99) → (∀ m, 0 ≤ m → m < (n : Int) → ¬ WON (giveV V h m) fr h) → (n ≠ 0 → ∀ s, isSt V s → ∀ p : Nat, (p : Int) < pe V → υ 100 0 (10 * s + p).toNat = ans (giveV V h ((n : Int) - 1)) s p) → WP mX13_gift 38 [vR 14 0, vI h, vI fr, vI (-1), vI (n : Int), vU, vU] [] υ Q := by
      intro r
      induction r with
      | zero =>
        intro n hn υ f e35 h36 hno _
        exact b_X13_gift_38 ⟨fun _ => fin υ _ f h36 ⟨_, hfr, Or.inl ⟨rfl, fun m h0 h9 => hno m h0 (by omega)⟩⟩, fun z => by omega⟩
      | succ r ih =>
        intro n hn υ f e35 h36 hno hpr
        have hUn := vk n (by omega) (by omega)
        refine b_X13_gift_38 ⟨fun z => by omega, fun _ => ⟨fun z => absurd rfl z, fun _ => ?_⟩⟩
        have e12 : υ 14 0 12 = an V := by rw [f 14 0 12 (fun z => by unfold kM at z; omega)]; exact h1.2.2.2.1
        rw [e12]
        have F1 : FR (fun c i j => kM c i j ∨ (c = 14 ∧ i = 0 ∧ (j = 35 ∨ j = 36))) τ (up υ 14 0 36 n) := f.u (Or.inr ⟨rfl, rfl, by omega⟩)
        have hT := mtU (up υ 14 0 36 n) n (by omega) (by omega) F1 (by rw [up_j (by omega)]; exact e35) (up_s _ _ _ _ _)
        show WP mX13_findAnswers 0 [vR 14 0, vI (an (giveV V h n)), vU, vU] [] (up υ 14 0 36 n) _
        refine d_findAnswers hUn hT (fun ω o1 o2 => ?_)
        show WP mX13_gift 64 [vR 14 0, vI h, vI fr, vI (-1), vI (n : Int), vU, vU] [] ω Q
        have F2 : FR (fun c i j => kM c i j ∨ (c = 14 ∧ i = 0 ∧ (j = 35 ∨ j = 36))) τ ω := F1.tr (o1.wk (fun c i j z => Or.inl (by unfold fP at z; unfold kM; omega)))
        have o35 : ω 14 0 35 = h := by rw [o1 14 0 35 (fun z => by unfold fP at z; omega), up_j (by omega)]; exact e35
        have o36 : ω 14 0 36 = n := by rw [o1 14 0 36 (fun z => by unfold fP at z; omega), up_s]
        have o100 : ∀ x, ω 100 0 x = υ 100 0 x := fun x => by rw [o1 100 0 x (fun z => by unfold fP at z; omega), up_c (by omega)]
        have hTo : MT ω (giveV V h n) := hT.fr o1 (fun c j hc z => by unfold fP at z; omega)
        have e10 : ω 14 0 10 = pe V := hTo.1
        have e77 : ω 77 0 (pe V).toNat = cod V := hTo.2.2.2.2.2.2.2.1 (pe V).toNat (by show ((pe V).toNat : Int) ≤ pe V; omega)
        have nx : ∀ ρ, FR (fun c i j => kM c i j ∨ (c = 14 ∧ i = 0 ∧ (j = 35 ∨ j = 36))) τ ρ → ρ 14 0 35 = h → ρ 14 0 36 = n → (∀ s, isSt V s → ∀ p : Nat, (p : Int) < pe V → ρ 100 0 (10 * s + p).toNat = ans (giveV V h n) s p) → ¬ WON (giveV V h n) fr h → in32 ((n : Int) + 1) ∧ WP mX13_gift 38 [vR 14 0, vI h, vI fr, vI (-1), vI ((n : Int) + 1), vU, vU] [] ρ Q := fun ρ fp p35 p36 p100 hw => by
          refine ⟨by unfold in32; omega, ih (n + 1) (by omega) ρ fp p35 (by omega) (fun m h0 hlt => ?_) (fun _ => ?_)⟩
          · by_cases e : m = n
            · rw [e]; exact hw
            · exact hno m h0 (by push_cast at hlt; omega)
          · rw [show ((n + 1 : Nat) : Int) - 1 = (n : Int) by omega]
            exact p100
        -- other ANSWERS
        have copy : ∀ (r2 k : Nat), ((r2 + k : Nat) : Int) = 10 * cod V → ∀ ρ, FR (fun c i _ => c = 100 ∧ i = 0) ω ρ → (∀ q, q < k → ρ 100 0 q = i2bI (ω 78 0 q)) → WP mX13_gift 162 [vR 14 0, vI h, vI fr, vI (-1), vI (n : Int), vU, vI (k : Int)] [] ρ Q := by
          intro r2
          induction r2 with
          | zero =>
            intro k hk ρ fp h100
            have g10 : ρ 14 0 10 = pe V := by rw [fp 14 0 10 (fun z => by omega)]; exact e10
            have g77 : ρ 77 0 (pe V).toNat = cod V := by rw [fp 77 0 _ (fun z => by omega)]; exact e77
            refine b_X13_gift_162 ?_
            rw [g10, g77]
            refine ⟨by omega, by unfold in32; omega, fun _ => ?_, fun z => by omega⟩
            have hTp : MT ρ (giveV V h n) := hTo.fr fp (fun c j hc z => by omega)
            have hRp : MRP ρ (giveV V h n) := o2.fr fp (fun c j hc z => by omega)
            refine d_findRests hUn hTp hRp (fun κ k1 k2 => ?_)
            show WP mX13_gift 198 [vR 14 0, vI h, vI fr, vI (-1), vI (n : Int), vU, vU] [] κ Q
            refine b_X13_gift_198 (d_isWon hUn (hTp.fr k1 (fun c j hc z => by unfold frP at z; omega)) (hRp.fr k1 (fun c j hc z => by unfold frP at z; omega)) k2 hfr.1 (fun μ m1 => ?_))
            show WP mX13_gift 204 [vR 14 0, vI h, vI fr, vI (-1), vI (n : Int), vU, vU] [vI (b2 (WON (giveV V h n) fr h))] μ Q
            have F4 : FR (fun c i j => kM c i j ∨ (c = 14 ∧ i = 0 ∧ (j = 35 ∨ j = 36))) τ μ := ((F2.tr (fp.wk (fun c i j z => Or.inl (by unfold kM; omega)))).tr (k1.wk (fun c i j z => Or.inl (by unfold frP at z; unfold kM; omega)))).tr (m1.wk (fun c i j z => Or.inl (by unfold wwP coP mkP smP at z; unfold kM; omega)))
            have gm : ∀ c j, (c = 14 ∧ (j = 35 ∨ j = 36)) → μ c 0 j = ω c 0 j := fun c j hc => by
              rw [m1 c 0 j (fun z => by unfold wwP coP mkP smP at z; omega), k1 c 0 j (fun z => by unfold frP at z; omega), fp c 0 j (fun z => by omega)]
            have gm100 : ∀ x, μ 100 0 x = ρ 100 0 x := fun x => by
              rw [m1 100 0 x (fun z => by unfold wwP coP mkP smP at z; omega), k1 100 0 x (fun z => by unfold frP at z; omega)]
            have m36 : μ 14 0 36 = n := by rw [gm 14 36 (by omega)]; exact o36
            have hB : WON (giveV V h n) fr h → GFT V h n := fun w => ⟨_, hfr, Or.inr ⟨by omega, by omega, w, hno⟩⟩
            refine b_X13_gift_204 ⟨fun z => nx μ F4 (by rw [gm 14 35 (by omega)]; exact o35) m36 (fun s hs p hp => ?_) (b2_eq z), fun z => ⟨by unfold in32; omega, b_X13_gift_38 ⟨fun _ => fin μ _ F4 (by omega) (hB (b2_ne z)), fun _ => ⟨fun _ => fin μ _ F4 (by omega) (hB (b2_ne z)), fun z => by omega⟩⟩⟩⟩
            have hb := hs.1
            unfold inC at hb
            have hab2 := ans_bd hUn s (p := p) hp
            rw [gm100, h100 _ (by omega), o2.2 s hs p hp, i2b_id hab2.1 (by omega)]
          | succ r2 ih2 =>
            intro k hk ρ fp h100
            have g10 : ρ 14 0 10 = pe V := by rw [fp 14 0 10 (fun z => by omega)]; exact e10
            have g77 : ρ 77 0 (pe V).toNat = cod V := by rw [fp 77 0 _ (fun z => by omega)]; exact e77
            refine b_X13_gift_162 ?_
            rw [g10, g77, Int.toNat_natCast]
            refine ⟨by omega, by unfold in32; omega, fun z => by omega, fun _ => ⟨by omega, by omega, by unfold in32; omega, ih2 (k + 1) (by omega) _ (fp.u ⟨rfl, rfl⟩) (fun q hq' => ?_)⟩⟩
            by_cases e : q = k
            · rw [e, up_s, fp 78 0 k (fun z => by omega)]
            · rw [up_j e]; exact h100 q (by omega)
        have hc0 := cod_pos hV
        have docopy : WP mX13_gift 162 [vR 14 0, vI h, vI fr, vI (-1), vI (n : Int), vU, vI 0] [] ω Q := copy (10 * cod V).toNat 0 (by omega) ω FR.rf (fun q hq' => by omega)
        -- compared
        have comp : ∀ (r2 k : Nat), ((r2 + k : Nat) : Int) = 10 * cod V → n ≠ 0 → ∀ x5 : Int, (x5 = 0 ∨ (x5 = 1 ∧ ∀ q : Nat, q < k → isSt V ((q / 10 : Nat) : Int) → ((q % 10 : Nat) : Int) < pe V → ω 78 0 q = ω 100 0 q)) → WP mX13_gift 79 [vR 14 0, vI h, vI fr, vI (-1), vI (n : Int), vI x5, vI (k : Int)] [] ω Q := by
          intro r2
          induction r2 with
          | zero =>
            intro k hk hn0 x5 hx
            refine b_X13_gift_79 ?_
            rw [e10, e77]
            refine ⟨by omega, by unfold in32; omega, fun _ => ⟨fun _ => docopy, fun z => ?_⟩, fun z => by omega⟩
            have hsame := (hx.resolve_left z).2
            have eq1 : ∀ s, isSt V s → ∀ p : Nat, (p : Int) < pe V → ans (giveV V h n) s p = ans (giveV V h ((n : Int) - 1)) s p := fun s hs p hp => by
              have hb := hs.1
              unfold inC at hb
              have q0 := hsame (10 * s + p).toNat (by omega) (by rw [show (((10 * s + p).toNat / 10 : Nat) : Int) = s by omega]; exact hs) (by omega)
              rw [← o2.2 s hs p hp, ← hpr hn0 s hs p hp, q0, o100]
            refine nx ω F2 o35 o36 (fun s hs p hp => ?_) (fun w => hno ((n : Int) - 1) (by omega) (by omega) (gW hUn (vk _ (by omega) (by omega)) eq1 w))
            rw [o100, hpr hn0 s hs p hp, eq1 s hs p hp]
          | succ r2 ih2 =>
            intro k hk hn0 x5 hx
            have ct : (isSt V ((k / 10 : Nat) : Int) → ((k % 10 : Nat) : Int) < pe V → ω 78 0 k = ω 100 0 k) → x5 = 1 → in32 ((k : Int) + 1) ∧ WP mX13_gift 79 [vR 14 0, vI h, vI fr, vI (-1), vI (n : Int), vI 1, vI ((k : Int) + 1)] [] ω Q := fun he h1' => ⟨by unfold in32; omega, ih2 (k + 1) (by omega) hn0 1 (Or.inr ⟨rfl, fun q hq' a1 a2 => by
              by_cases e : q = k
              · rw [e] at a1 a2 ⊢; exact he a1 a2
              · exact (hx.resolve_left (by omega)).2 q (by omega) a1 a2⟩)⟩
            have hth := o2.1 (k / 10) (show ((k / 10 : Nat) : Int) < cod V by omega)
            have ediv : ((k : Int) / 10).toNat = k / 10 := by omega
            refine b_X13_gift_79 ?_
            rw [e10, e77, ediv, hth, Int.toNat_natCast]
            refine ⟨by omega, by unfold in32; omega, fun z => by omega, fun _ => ⟨fun z => ⟨fun _ => docopy, fun z2 => absurd z z2⟩, fun z => ?_⟩⟩
            have hx1 := (hx.resolve_left z).1
            refine ⟨by omega, by omega, fun zs => ct (fun a1 => absurd a1 (b2_eq zs)) hx1, fun zs => ⟨by omega, fun zp => ct (fun _ a2 => by omega) hx1, fun zp => ⟨by omega, by omega, fun zd => ⟨by unfold in32; omega, ih2 (k + 1) (by omega) hn0 0 (Or.inl rfl)⟩, fun zd => ct (fun _ _ => zd) hx1⟩⟩⟩
        refine b_X13_gift_64 ⟨fun z => ?_, fun z => comp (10 * cod V).toNat 0 (by omega) (by omega) 1 (Or.inr ⟨rfl, fun q hq' => by omega⟩)⟩
        refine b_X13_gift_79 ?_
        rw [e10, e77]
        exact ⟨by omega, by unfold in32; omega, fun _ => ⟨fun _ => docopy, fun z => absurd rfl z⟩, fun _ => ⟨fun _ => ⟨fun _ => docopy, fun z => absurd rfl z⟩, fun z => absurd rfl z⟩⟩
    have e36t := hT0.2.2.2.2.2.2.2.2
    exact key 100 0 (by omega) _ (FR.rf.u (Or.inr ⟨rfl, rfl, by omega⟩)) (up_s _ _ _ _ _) (by rw [up_j (by omega)]; exact e36t) (fun m h0 hlt => by omega) (fun z => absurd rfl z)
  · rcases a with ⟨a1, a2⟩ | ⟨a1, a2⟩ <;> rcases b with ⟨b1, b2'⟩ | ⟨b1, b2'⟩
    · omega
    · omega
    · omega
    · exact a2.un b2'
end Give
