/-! ===== who wins in a changed land: the class' winsAlone, the model's isWon ===== -/
theorem band12_all : ∀ a : Fin 4, ∀ m : Fin 1024, ∀ q : Fin 12, band (shr ((1024 * a.val + m.val : Nat) : Int) ((q.val : Nat) : Int)) 1 = if (1024 * a.val + m.val).testBit q.val = true then 1 else 0 := by decide +kernel
theorem band12 {m q : Int} (h0 : 0 ≤ m) (h1 : m < 4096) (h2 : 0 ≤ q) (h3 : q < 12) : band (shr m q) 1 ≠ 0 ↔ tbit m q.toNat := by
  have := band12_all ⟨m.toNat / 1024, by omega⟩ ⟨m.toNat % 1024, by omega⟩ ⟨q.toNat, by omega⟩
  simp only [] at this
  rw [show 1024 * (m.toNat / 1024) + m.toNat % 1024 = m.toNat by omega, show ((m.toNat : Nat) : Int) = m by omega, show ((q.toNat : Nat) : Int) = q by omega] at this
  rw [this]
  unfold tbit
  by_cases e : m.toNat.testBit q.toNat = true
  · rw [if_pos e]; exact ⟨fun _ => e, fun _ => by omega⟩
  · rw [if_neg e]; exact ⟨fun z => absurd rfl z, fun z => absurd z e⟩
section Won
variable {σ : St} {Q : Res → St → Prop} {U U' : Vy} {fr h : Int}
/-- by any numbering -/
theorem WON.by {home : Int → Int} {N : Nat} {b : Int} (hU : VOK U) (hH : HOME U home N) (hW : WIN U b) : WON U fr h ↔ N ≤ 12 ∧ ∀ s, isSt U s → 0 ≤ home s → tbit b (home s).toNat = true → ∀ p : Nat, (p : Int) < pe U → tbit fr p = true → hab U s p = h := by
  constructor
  · rintro ⟨f, M, b', a1, a2, a3, a4⟩
    obtain ⟨e1, e2⟩ := hH.uniq hU a1
    have e3 := hW.un hU a3
    refine ⟨by omega, fun s hs h0 hb => ?_⟩
    rw [e1 s hs] at h0 hb
    rw [e3] at hb
    exact a4 s hs h0 hb
  · exact fun ⟨h1, h2⟩ => ⟨home, N, b, hH, h1, hW, h2⟩
theorem not_won {home : Int → Int} {N : Int} (hU : VOK U) (hH : HOME U home N) (hN : 12 < N) : ¬ WON U fr h := by
  rintro ⟨f, M, b', a1, a2, _⟩
  have := (hH.uniq hU a1).2
  omega
theorem d_isWon (hU : VOK U) (hT : MT σ U) (hR : MRP σ U) (hS : MRS σ U) (hfr : 0 ≤ fr ∧ fr < 1024) (hk : ∀ τ, FR wwP σ τ → Q (.inl (some (vI (b2 (WON U fr h))))) τ) : WP mX13_isWon 0 [vR 14 0, vI h, vI fr, vU, vU, vU] [] σ Q := by
  have hpe := hU.pe
  have hha := hU.ha
  have hcod := hU.cod
  have hn0 := hS.1.2.2.2.2
  refine b_X13_isWon_0 ⟨fun z => ?_, fun z => ?_⟩
  · obtain ⟨N, hN⟩ : ∃ N : Nat, σ 14 0 51 = N := ⟨(σ 14 0 51).toNat, by omega⟩
    refine d_winnersNow (N := N) hU hT hR hS hN (by omega) (fun τ L b f1 c1 w1 => ?_)
    show WP mX13_isWon 15 [vR 14 0, vI h, vI fr, vU, vU, vU] [vI b] τ Q
    have hW : WIN U b := ⟨ri σ, N, _, L, by rw [← hN]; exact hS.1, by omega, fun a b ha hb hne F hF s hs hsa => c1 a b (by omega) (by omega) hne F hF s hs hsa, w1⟩
    have hH : HOME U (ri σ) N := by rw [← hN]; exact hS.1
    have hby := WON.by (fr := fr) (h := h) hU hH hW
    have hT' : MT τ U := hT.fr f1 (fun c j hc z => by unfold wwP coP mkP smP at z; omega)
    have e83 : ∀ x, τ 83 0 x = σ 83 0 x := fun x => f1 83 0 x (fun z => by unfold wwP coP mkP smP at z; omega)
    have e77 : τ 77 0 (pe U).toNat = cod U := hT'.2.2.2.2.2.2.2.1 (pe U).toNat (by omega)
    have hb12 : 0 ≤ b ∧ b < 4096 := by
      have := w1.1
      have h2 : b.toNat < 4096 := this.2
      omega
    refine b_X13_isWon_15 ?_
    have outer : ∀ r y : Nat, ((r + y : Nat) : Int) = cod U → (∀ s, isSt U s → s < y → 0 ≤ ri σ s → tbit b (ri σ s).toNat = true → ∀ p : Nat, (p : Int) < pe U → tbit fr p = true → hab U s p = h) → WP mX13_isWon 19 [vR 14 0, vI h, vI fr, vI b, vI (y : Int), vU] [] τ Q := by
      intro r
      induction r with
      | zero =>
        intro y hy hd
        refine b_X13_isWon_19 ?_
        rw [hT'.1, e77]
        refine ⟨by omega, fun _ => ?_, fun z => by omega⟩
        have := hk τ f1
        rw [b2_t (hby.mpr ⟨by omega, fun s hs => hd s hs (by have := hs.1; unfold inC at this; omega)⟩)] at this
        exact this
      | succ r ih =>
        intro y hy hd
        have nx : (isSt U (y : Int) → 0 ≤ ri σ (y : Int) → tbit b (ri σ (y : Int)).toNat = true → ∀ p : Nat, (p : Int) < pe U → tbit fr p = true → hab U (y : Int) p = h) → in32 ((y : Int) + 1) ∧ WP mX13_isWon 19 [vR 14 0, vI h, vI fr, vI b, vI ((y : Int) + 1), vU] [] τ Q := fun hq => ⟨by unfold in32; omega, ih (y + 1) (by omega) (fun s hs hlt => by
          by_cases e : s = y
          · rw [e] at hs ⊢; exact hq hs
          · exact hd s hs (by push_cast at hlt; omega))⟩
        have hry : ri σ (y : Int) = σ 83 0 y := rfl
        refine b_X13_isWon_19 ?_
        rw [hT'.1, e77, Int.toNat_natCast, e83]
        refine ⟨by omega, fun z => by omega, fun _ => ⟨by omega, fun z => nx (fun _ z2 => by omega), fun z => ?_⟩⟩
        have hs : isSt U (y : Int) := by
          apply Classical.byContradiction
          exact fun q => z (hS.2.2.2.2.2.2 y (by omega) q)
        have hc := (hS.1.1 (y : Int) hs).resolve_left (fun q => z q.1)
        rw [band12 hb12.1 hb12.2 (by omega) (by omega)]
        refine ⟨by omega, fun zb => ?_, fun zb => nx (fun _ _ z3 => absurd z3 (fun q => (band12 hb12.1 hb12.2 (by omega) (by omega)).mpr q zb))⟩
        have inner : ∀ r' p : Nat, ((r' + p : Nat) : Int) = pe U → (∀ q : Nat, q < p → tbit fr q = true → hab U (y : Int) q = h) → WP mX13_isWon 59 [vR 14 0, vI h, vI fr, vI b, vI (y : Int), vI (p : Int)] [] τ Q := by
          intro r'
          induction r' with
          | zero =>
            intro p hp hq
            refine b_X13_isWon_59 ⟨fun _ => nx (fun _ _ _ q hq' => hq q (by omega)), fun z => by rw [hT'.1] at z; omega⟩
          | succ r' ihr =>
            intro p hp hq
            have hpw := pw_pos hU p
            refine b_X13_isWon_59 ?_
            rw [hT'.1, hT'.2.1, Int.toNat_natCast, hT'.2.2.2.2.2.2.2.1 p (by omega), Ne, band_eq1 hfr.1 hfr.2 (by omega) (by omega), Int.toNat_natCast]
            refine ⟨fun z => by omega, fun _ => ⟨fun q => ⟨by unfold in32; omega, ihr (p + 1) (by omega) (fun q' hq' hb' => ?_)⟩, fun q => ⟨⟨by omega, by omega, by omega, hpw, Int.ediv_nonneg (by omega) (Int.le_of_lt hpw), by omega⟩, fun e => ⟨by unfold in32; omega, ihr (p + 1) (by omega) (fun q' hq' hb' => ?_)⟩, fun e => ?_⟩⟩⟩
            · by_cases e : q' = p
              · rw [e] at hb'; exact absurd hb' q
              · exact hq q' (by omega) hb'
            · by_cases e2 : q' = p
              · rw [e2]; exact e
              · exact hq q' (by omega) hb'
            · have := hk τ f1
              rw [b2_f (fun w => e ((hby.mp w).2 y hs (by omega) zb p (by omega) q))] at this
              exact this
        exact inner (pe U).toNat 0 (by omega) (fun q hq => by omega)
    have hc0 := cod_pos hU
    exact outer (cod U).toNat 0 (by omega) (fun s hs hlt => by have := (st_bd hU hs).1; omega)
  · have := hk σ FR.rf
    rw [b2_f (not_won hU hS.1 z)] at this
    exact this
/-- the winner is one STATE -/
theorem won_goal {t : Int} (hU : VOK U) (ht : isSt U t) (hk : ∀ p : Nat, (p : Int) < pe U → tbit fr p = true → hab U t p = h) (hall : ∀ p : Nat, (p : Int) < pe U → tbit fr p = true ∨ ke U p ≠ -1) : ∀ s, isSt U s → (∀ p : Nat, (p : Int) < pe U → tbit fr p = true → hab U s p = h) → s = t := fun s hs hp => st_ext hU hs.1 ht.1 (fun p hp' => by
  by_cases e : tbit fr p = true
  · rw [hp p hp' e, hk p hp' e]
  · have := (hall p hp').resolve_left e
    rw [hs.2 p hp' this, ht.2 p hp' this])
theorem won_fact {t : Int} {home : Int → Int} {N : Nat} {b : Int} (hU : VOK U) (ht : isSt U t) (hk : ∀ p : Nat, (p : Int) < pe U → tbit fr p = true → hab U t p = h) (hall : ∀ p : Nat, (p : Int) < pe U → tbit fr p = true ∨ ke U p ≠ -1) (hH : HOME U home N) (hW : WIN U b) (hw : WON U fr h) : N ≤ 12 ∧ 0 ≤ home t ∧ (∀ u, Rch U t u → u = t) ∧ b = 2 ^ (home t).toNat := by
  obtain ⟨h1, h2⟩ := (WON.by hU hH hW).mp hw
  have hone := won_goal hU ht hk hall
  obtain ⟨f, M, w, L, a1, a2, a3, a4⟩ := hW
  obtain ⟨e1, e2⟩ := hH.uniq hU a1
  have hMN : M = N := by omega
  subst hMN
  -- a winner
  have hN0 : 0 < M := by
    obtain ⟨r, r1, r2⟩ := rch_rest hU ht
    have := (hH.1 r r2.1).resolve_left (fun z => z.2 r2)
    omega
  obtain ⟨j, j1, j2⟩ := a4.2.2.2.resolve_left (by omega)
  have hbit : ∀ r, tbit b r = true → r < M ∧ ∃ s, isSt U s ∧ home s = r ∧ s = t := fun r hr => by
    have hr1 := ((a4.2.2.1 r).mp hr).1
    obtain ⟨s, s1, s2⟩ := hH.2.2.2.1 (r : Int) (by omega) (by omega)
    refine ⟨hr1, s, s1.1, s2, hone s s1.1 (h2 s s1.1 (by omega) ?_)⟩
    rw [s2, Int.toNat_natCast]; exact hr
  obtain ⟨_, s, s1, s2, s3⟩ := hbit j ((a4.2.2.1 j).mpr ⟨j1, j2⟩)
  subst s3
  have hR := ((hH.1 s s1).resolve_left (fun z => by omega)).2.2
  have hbj : tbit b (home s).toNat = true := by rw [s2, Int.toNat_natCast]; exact (a4.2.2.1 j).mpr ⟨j1, j2⟩
  refine ⟨h1, by omega, fun u hu => ?_, ?_⟩
  · have hus := hu.st hU s1
    have huR : Rst U u := ⟨hus, fun v hv => (hR.2 v (hu.tr hv)).tr hu⟩
    have hh := (hH.2.1 s u hR huR).mpr hu
    exact hone u hus (h2 u hus (by omega) (by rw [← hh]; exact hbj))
  · refine bits_ext a4.1.1 (Int.le_of_lt (Int.pow_pos (by omega))) (fun r => ?_)
    rw [tbit_pw]
    refine ⟨fun hr => ?_, fun hr => by rw [hr]; exact hbj⟩
    obtain ⟨_, v, v1, v2, v3⟩ := hbit r hr
    rw [v3] at v2
    omega
/-- it comes to nothing else -/
theorem stay_of {t : Int} (hU : VOK U) (ht : isSt U t) (hk : ∀ p : Nat, (p : Int) < pe U → ke U p = -1 → hab U t p = h) (ha0 : 0 ≤ h) (hans : ∀ p : Nat, (p : Int) < pe U → ke U p = -1 → ans U t p = 2 ^ h.toNat) : ∀ u, Rch U t u → u = t := fun u hu => hu (fun x => x = t) rfl (fun a b hab' hE => by
  subst hab'
  obtain ⟨p, hp, hkp, x, x0, x1, hx, hb⟩ := hE
  rw [hans p hp hkp, tbit_pw] at hb
  have : x = h := by omega
  rw [hx, this, ← hk p hp hkp, wi_self])
theorem of_stay {t : Int} {p : Nat} (hU : VOK U) (ht : isSt U t) (hp : (p : Int) < pe U) (hkp : ke U p = -1) (hk : hab U t p = h) (hst : ∀ u, Rch U t u → u = t) : ans U t p = 2 ^ h.toNat := by
  have hbd := ans_bd hU t hp
  have hb := hab_bd hU t p
  have only : ∀ k, tbit (ans U t p) k = true → k = h.toNat := fun k hb' => by
    have hl := ans_lt hU t hp hb'
    have hE : E U t (wi U t p k) := ⟨p, hp, hkp, k, by omega, hl, rfl, by rw [Int.toNat_natCast]; exact hb'⟩
    have e := hst _ (Rch.one hE)
    have := hab_wi_same hU ht.1.1 (p := p) (x := (k : Int)) (by omega) hl
    rw [e, hk] at this
    omega
  refine bits_ext hbd.1 (Int.le_of_lt (Int.pow_pos (by omega))) (fun r => ?_)
  rw [tbit_pw]
  refine ⟨fun z => only r z, fun z => ?_⟩
  obtain ⟨k, _, k2⟩ := ans_some hU t hp
  rw [z, ← only k k2]; exact k2
theorem WIN.one {home : Int → Int} (hH : HOME U home 1) : WIN U 1 := by
  have m0 : ∀ j, j < 1 → MTS 1 j (fun _ _ => True) (fun _ _ => (0 : Int)) 0 := fun j hj => by
    have hj0 : j = 0 := by omega
    subst hj0
    refine ⟨⟨fun _ => 0, ⟨fun _ => 0, fun v hv hne => by omega⟩, rfl⟩, fun f _ => ?_⟩
    unfold ts
    exact sm_nn (fun v hv => by show (0 : Int) ≤ (if v = 0 then 0 else 0); split <;> omega)
  refine ⟨home, 1, fun _ _ => 0, 0, hH, by omega, fun a b ha hb hne => by omega, ⟨by omega, by decide⟩, fun j hj => ⟨0, m0 j hj, by omega⟩, fun r => ?_, Or.inr ⟨0, by omega, m0 0 (by omega)⟩⟩
  have : tbit 1 r = true ↔ r = 0 := by
    have := tbit_pw 0 r
    rw [show ((2 : Int) ^ 0) = 1 from rfl] at this
    exact this
  rw [this]
  exact ⟨fun z => ⟨by omega, m0 r (by omega)⟩, fun z => by omega⟩
def waP (c i j : Nat) : Prop := (i = 1 ∧ (c = 2 ∨ c = 4 ∨ c = 5 ∨ (22 ≤ c ∧ c ≤ 36))) ∨ (i = 0 ∧ (c = 6 ∨ c = 37 ∨ c = 39 ∨ (48 ≤ c ∧ c ≤ 53)))
theorem c_winsAlone (hU : VOK U) (hA : VA σ 1 U) (hR : REP σ 1 U) (h4 : σ 2 1 4 ≠ 0) (h5 : σ 2 1 5 = 0) (h6 : σ 2 1 6 = 0) (hfr : 0 ≤ σ 10 0 9 ∧ σ 10 0 9 < 1024) (hh : 0 ≤ h ∧ h < ha U) (hall : ∀ p : Nat, (p : Int) < pe U → tbit (σ 10 0 9) p = true ∨ ke U p ≠ -1) (hkp : ∀ p : Nat, (p : Int) < pe U → tbit (σ 10 0 9) p = true → ke U p = -1 ∨ ke U p = h) (hk : ∀ τ, FR waP σ τ → REP τ 1 U → Q (.inl (some (vI (b2 (WON U (σ 10 0 9) h))))) τ) : WP mX11_winsAlone 0 [vR 12 0, vI h, vU, vU, vU] [] σ Q := by
  have hpe := hU.pe
  have hha := hU.ha
  obtain ⟨T, P, F, L, M⟩ := hA
  have hn0 : 0 < σ 10 1 12 := by
    obtain ⟨H, hH, hb1, hb2⟩ := hN hU
    have := cnt_st hU hH
    have hp : 0 < H ^ cnt (fun p => ke U p = -1) (pe U).toNat := Nat.pow_pos (by omega)
    rw [L.2.2.2.2]; omega
  have hs0 := L.2.1 0 (by omega)
  refine b_X11_winsAlone_0 (c_allWith hU T P hs0.1 hfr hh (fun t g1 g2 => ?_))
  show WP mX11_winsAlone 29 [vR 12 0, vI h, vR 10 1, vU, vU] [vI t] σ Q
  have hkt : ∀ p : Nat, (p : Int) < pe U → tbit (σ 10 0 9) p = true → hab U t p = h := fun p hp hb => by rw [g2 p hp, if_pos hb]
  have ht : isSt U t := ⟨g1, fun p hp hne => by
    by_cases e : tbit (σ 10 0 9) p = true
    · rw [hkt p hp e, ((hkp p hp e).resolve_left hne)]
    · rw [g2 p hp, if_neg e]; exact hs0.2 p hp hne⟩
  have hkt' : ∀ p : Nat, (p : Int) < pe U → ke U p = -1 → hab U t p = h := fun p hp hke => hkt p hp ((hall p hp).resolve_right (fun z => z hke))
  have htb := st_bd hU ht
  refine b_X11_winsAlone_29 ?_
  have key : ∀ r p : Nat, ((r + p : Nat) : Int) = pe U → (∀ q : Nat, q < p → (q : Int) < pe U → ke U q = -1 → ans U t q = 2 ^ h.toNat) → WP mX11_winsAlone 33 [vR 12 0, vI h, vR 10 1, vI t, vI (p : Int)] [] σ Q := by
    intro r
    induction r with
    | zero =>
      intro p hp hq
      have hst := stay_of (h := h) hU ht hkt' hh.1 (fun q hq' hke => hq q (by omega) hq' hke)
      have hRt : Rst U t := ⟨ht, fun u hu => by rw [hst u hu]; exact Rch.rf⟩
      refine b_X11_winsAlone_33 ⟨fun _ => ?_, fun z => by rw [T.pe] at z; omega⟩
      refine c_ready hU ⟨T, P, F, L, M⟩ ⟨fun _ => hR, fun z => absurd h5 z⟩ (fun τ f1 e4 e5 r1 r2 r3 _ => ?_)
      show WP mX11_winsAlone 85 [vR 12 0, vU, vU, vI t, vU] [] τ Q
      have F1 : FR waP σ τ := f1.wk (fun c i j z => by unfold rdP at z; unfold waP; omega)
      have hn00 := r2.1.2.2.2.2
      have hht : hm τ 1 t = τ 27 1 t.toNat := rfl
      have hc := (r2.1.1 t ht).resolve_left (fun z => z.2 hRt)
      refine b_X11_winsAlone_85 ⟨htb, fun z => by omega, fun z => ⟨fun z12 => ⟨fun z1 => ?_, fun z1 => ?_⟩, fun z12 => ?_⟩⟩
      · have hH : HOME U (hm τ 1) ((1 : Nat) : Int) := by rw [← show τ 5 1 0 = ((1 : Nat) : Int) from z1]; exact r2.1
        have hW : WIN U 1 := WIN.one hH
        have := hk τ F1 r1
        rw [b2_t ((WON.by hU hH hW).mpr ⟨by omega, fun s hs h0 _ => ?_⟩)] at this
        · exact this
        · have hRs := ((hH.1 s hs).resolve_left (fun z => by omega)).2.2
          have e0 : hm τ 1 t = hm τ 1 s := by
            have := (hH.1 s hs).resolve_left (fun z => by omega)
            omega
          rw [hst s ((hH.2.1 t s hRt hRs).mp e0)]
          exact hkt
      · obtain ⟨N, hN⟩ : ∃ N : Nat, τ 5 1 0 = N := ⟨(τ 5 1 0).toNat, by omega⟩
        have e6 : τ 2 1 6 = 0 := by rw [f1 2 1 6 (fun z => by unfold rdP at z; omega)]; exact h6
        refine c_winnersOf (N := N) hU (VA.fr ⟨T, P, F, L, M⟩ f1 (fun c k hc z => by unfold rdP at z; omega)) r1 r2 hN (by omega) (fun z => absurd e6 z) (fun υ Lb b u1 u2 u3 u4 => ?_)
        show WP mX11_winsAlone 143 [vU, vU, vU, vU, vI (τ 27 1 t.toNat)] [vI b] υ Q
        have eh : hm υ 1 = hm τ 1 := by funext x; exact u1 27 1 _ (fun z => by unfold wnP meP sP lsP at z; omega)
        have e50 : υ 5 1 0 = (N : Nat) := by rw [u1 5 1 0 (fun z => by unfold wnP meP sP lsP at z; omega)]; exact hN
        have hH : HOME U (hm υ 1) N := by rw [eh, ← hN]; exact r2.1
        have hW : WIN U b := ⟨hm υ 1, N, _, Lb, hH, by omega, fun a b ha hb _ F hF s hs hsa => u3 a b (by omega) (by omega) F hF s hs hsa, u4⟩
        have F2 : FR waP σ υ := F1.tr (u1.wk (fun c i j z => by unfold wnP meP sP lsP at z; unfold waP; omega))
        have hkk := hk υ F2 (r1.fr u1 (fun k z => by unfold wnP meP sP lsP at z; omega))
        rw [← hht] at z ⊢
        refine b_X11_winsAlone_143 ?_
        rw [shl1 (by omega) (by omega)]
        refine ⟨fun hne => ?_, fun he => ?_⟩
        · rw [b2_f (fun w => hne ?_)] at hkk
          · exact hkk
          · have := (won_fact hU ht hkt hall hH hW w).2.2.2
            rw [eh] at this
            exact this
        · rw [b2_t ((WON.by hU hH hW).mpr ⟨by omega, fun s hs h0 hb => ?_⟩)] at hkk
          · exact hkk
          · rw [he, eh, tbit_pw] at hb
            rw [eh] at h0
            have hRs := ((r2.1.1 s hs).resolve_left (fun z => by omega)).2.2
            have e0 : hm τ 1 t = hm τ 1 s := by omega
            rw [hst s ((r2.1.2.1 t s hRt hRs).mp e0)]
            exact hkt
      · have := hk τ F1 r1
        rw [b2_f (not_won hU r2.1 z12)] at this
        exact this
    | succ r ih =>
      intro p hp hq
      have hpw := pw_pos hU p
      have hsd : ke U p = -1 → σ 23 1 (t * 10 + p).toNat = 16 * hab U t p + ans U t p := fun _ => hR t ht p (by omega)
      have hb1 := hab_bd hU t p
      have hb2 := ans_bd hU t (p := p) (by omega)
      refine b_X11_winsAlone_33 ?_
      rw [T.pe, band_ne F.1.1 F.1.2 (by omega) (by omega), Int.toNat_natCast, F.2.1 p, shl1 hh.1 (by omega)]
      refine ⟨fun z => by omega, fun _ => ⟨fun z => ⟨by unfold in32; omega, ih (p + 1) (by omega) (fun q hq1 hq2 hke => ?_)⟩, fun z => ⟨⟨by unfold in32; omega, by unfold in32; omega, by omega, by omega⟩, ?_⟩⟩⟩
      · by_cases e : q = p
        · rw [e] at hke hq2; exact absurd ⟨hq2, hke⟩ z
        · exact hq q (by omega) hq2 hke
      · rw [hsd z.2, band15 (by omega) (by omega), show (16 * hab U t p + ans U t p) % 16 = ans U t p by omega]
        refine ⟨fun e => ⟨by unfold in32; omega, ih (p + 1) (by omega) (fun q hq1 hq2 hke => ?_)⟩, fun e => ?_⟩
        · by_cases e2 : q = p
          · rw [e2]; exact e
          · exact hq q (by omega) hq2 hke
        · have := hk σ FR.rf hR
          rw [b2_f (fun w => e ?_)] at this
          · exact this
          · obtain ⟨f, M', b', a1, a2, a3, a4⟩ := w
            have w' : WON U (σ 10 0 9) h := ⟨f, M', b', a1, a2, a3, a4⟩
            exact of_stay hU ht z.1 z.2 (hkt' p z.1 z.2) (won_fact hU ht hkt hall a1 a3 w').2.2.1
  exact key (pe U).toNat 0 (by omega) (fun q hq => by omega)
end Won
