/-! ===== run: the model; both ===== -/
section Run3
variable {σ τ : St} {Q : Res → St → Prop} {V : Vy} {home : Int → Int} {fr q : Int}
def rnP (c i j : Nat) : Prop := i = 0 ∧ (c = 103 ∨ (c = 14 ∧ (72 ≤ j ∧ j ≤ 76)))
theorem d_run {s sd : Int} {n : Nat} (hV : VOK V) (hT : MT σ V) (hR : MRP σ V) (hri : ∀ s, isSt V s → ri σ s = home s) (hs : isSt V s) (hsd : 0 ≤ sd ∧ sd < 2147483648) (hn : n ≤ 5000) (hq : 2 ≤ q) (hfr : frN V fr) (hF1 : 1 ≤ bcnt fr) (h : ∀ τ, FR rnP σ τ → τ 14 0 76 ≠ 0 → MW τ (rit V home fr q ((s, 0, 0, 0, fun _ => 0), sd) n).1 → Q (.inl (some (vI (rit V home fr q ((s, 0, 0, 0, fun _ => 0), sd) n).1.1))) τ) : WP mX13_run 60 [vR 14 0, vI s, vI sd, vI (n : Int), vI q, vI fr, vU, vU, vU, vU, vU, vU, vU] [] σ Q := by
  have hpe := hV.pe
  have hha := hV.ha
  have hbb := bcnt_bd fr
  refine b_X13_run_60 ?_
  have key : ∀ r k : Nat, r + k = n → ∀ τ, FR rnP σ τ → MW τ (rit V home fr q ((s, 0, 0, 0, fun _ => 0), sd) k).1 → wbd V k (rit V home fr q ((s, 0, 0, 0, fun _ => 0), sd) k).1 → τ 14 0 72 = (rit V home fr q ((s, 0, 0, 0, fun _ => 0), sd) k).2 → (0 ≤ τ 14 0 72 ∧ τ 14 0 72 < 2147483648) → WP mX13_run 111 [vR 14 0, vU, vU, vI (n : Int), vI q, vI fr, vI (rit V home fr q ((s, 0, 0, 0, fun _ => 0), sd) k).1.1, vI (k : Int), vU, vU, vU, vU, vU] [] τ Q := by
    intro r
    induction r with
    | zero =>
      intro k hk τ f1 i1 i2 i3 i4
      have hkn : k = n := by omega
      subst hkn
      refine b_X13_run_111 ⟨fun _ => h _ (f1.u (by unfold rnP; omega)) (by rw [up_s]; omega) ⟨?_, ?_, ?_, fun q' hq' => ?_⟩, fun z => by omega⟩
      · rw [up_j (by omega)]; exact i1.1
      · rw [up_j (by omega)]; exact i1.2.1
      · rw [up_j (by omega)]; exact i1.2.2.1
      · rw [up_c (by omega)]; exact i1.2.2.2 q' hq'
    | succ r ih =>
      intro k hk τ f1 i1 i2 i3 i4
      have hrs : rit V home fr q ((s, 0, 0, 0, fun _ => 0), sd) (k + 1) = rst V home fr q (rit V home fr q ((s, 0, 0, 0, fun _ => 0), sd) k) := rfl
      have ih' := ih (k + 1) (by omega)
      rw [hrs] at ih'
      generalize (rit V home fr q ((s, 0, 0, 0, fun _ => 0), sd) k) = x at *
      have hd1 := drw_bd x.2
      have hd2 := drw_bd (lcg x.2)
      have hd3 := drw_bd (lcg (lcg x.2))
      have hl1 := lcg_bd x.2
      have hl2 := lcg_bd (lcg x.2)
      have hl3 := lcg_bd (lcg (lcg x.2))
      refine b_X13_run_111 ⟨fun z => by omega, fun _ => d_draws i4 ?_⟩
      rw [i3]
      show WP mX13_run 123 [vR 14 0, vU, vU, vI (n : Int), vI q, vI fr, vI x.1.1, vI (k : Int), vU, vU, vU, vU, vU] [vI (drw x.2), vI fr] _ Q
      refine b_X13_run_123 (d_bits hfr.1.1 hfr.1.2 ?_)
      show WP mX13_run 128 [vR 14 0, vU, vU, vI (n : Int), vI q, vI fr, vI x.1.1, vI (k : Int), vU, vU, vU, vU, vU] [vI (bcnt fr), vI (drw x.2), vI fr] _ Q
      have hm1 := Int.emod_nonneg (drw x.2) (show bcnt fr ≠ 0 by omega)
      have hm2 := Int.emod_lt_of_pos (drw x.2) (show 0 < bcnt fr by omega)
      obtain ⟨k1, hk1⟩ : ∃ k1 : Nat, drw x.2 % bcnt fr = k1 := ⟨(drw x.2 % bcnt fr).toNat, by omega⟩
      refine b_X13_run_128 ⟨⟨hd1.1, by omega⟩, ?_⟩
      rw [hk1]
      refine d_oneOf hfr.1 (by omega) (fun hp10 hpt => ?_)
      have hpf := (hfr.2 _).mp hpt
      have ep : nbF fr k1 = nbF fr (drw x.2 % bcnt fr).toNat := by rw [hk1, Int.toNat_natCast]
      generalize hp : nbF fr k1 = p at *
      show WP mX13_run 132 [vR 14 0, vU, vU, vI (n : Int), vI q, vI fr, vI x.1.1, vI (k : Int), vU, vU, vU, vU, vU] [vI (p : Int)] _ Q
      refine b_X13_run_132 (d_draws (by rw [up_s]; exact hl1) ?_)
      rw [up_s]
      show WP mX13_run 138 [vR 14 0, vU, vU, vI (n : Int), vI q, vI fr, vI x.1.1, vI (k : Int), vI (p : Int), vU, vU, vU, vU] [vI (drw (lcg x.2))] _ Q
      have f4 : FR rnP σ (up (up (up τ 14 0 72 (lcg x.2)) 14 0 72 (lcg (lcg x.2))) 14 0 72 (lcg (lcg (lcg x.2)))) := ((f1.u (by unfold rnP; omega)).u (by unfold rnP; omega)).u (by unfold rnP; omega)
      have g : ∀ c i' k', ¬ (c = 14 ∧ i' = 0 ∧ k' = 72) → (up (up (up τ 14 0 72 (lcg x.2)) 14 0 72 (lcg (lcg x.2))) 14 0 72 (lcg (lcg (lcg x.2)))) c i' k' = τ c i' k' := fun c i' k' hc => by
        unfold up
        rw [if_neg (fun z => hc z), if_neg (fun z => hc z), if_neg (fun z => hc z)]
      have g7 : (up (up (up τ 14 0 72 (lcg x.2)) 14 0 72 (lcg (lcg x.2))) 14 0 72 (lcg (lcg (lcg x.2)))) 14 0 72 = lcg (lcg (lcg x.2)) := up_s _ _ _ _ _
      have third : ∀ x9 : Int, ((x9 = 0 ∧ drw (lcg x.2) % q ≠ 0) ∨ (x9 = 1 ∧ drw (lcg x.2) % q = 0)) → WP mX13_draw 0 [vR 14 0] [] (up (up τ 14 0 72 (lcg x.2)) 14 0 72 (lcg (lcg x.2))) (CT mX13_run 155 [vR 14 0, vU, vU, vI (n : Int), vI q, vI fr, vI x.1.1, vI (k : Int), vI (p : Int), vI x9, vU, vU, vU] [] Q) := fun x9 hx9 => by
        refine d_draws (by rw [up_s]; exact hl2) ?_
        rw [up_s]
        show WP mX13_run 155 [vR 14 0, vU, vU, vI (n : Int), vI q, vI fr, vI x.1.1, vI (k : Int), vI (p : Int), vI x9, vU, vU, vU] [vI (drw (lcg (lcg x.2)))] _ Q
        generalize (up (up (up τ 14 0 72 (lcg x.2)) 14 0 72 (lcg (lcg x.2))) 14 0 72 (lcg (lcg (lcg x.2)))) = υ at *
        have hsb := st_bd hV i2.1
        have hT' : MT υ V := hT.fr f4 (fun c j hc z => by unfold rnP at z; omega)
        have hR' : MRP υ V := hR.fr f4 (fun c j hc z => by unfold rnP at z; omega)
        have e78 : υ 78 0 (10 * x.1.1 + p).toNat = ans V x.1.1 p := hR'.2 x.1.1 i2.1 p hpf.1
        have hb1 := hab_bd hV x.1.1 p
        have hb2 := ans_bd hV x.1.1 (p := p) hpf.1
        have hbc := bc_ans (s := x.1.1) (p := p) hV hpf.1
        have hpw := pw_pos hV p
        obtain ⟨b1, b2', b3, b4, b5⟩ := i2
        have b5p := b5 p
        have m1 : υ 14 0 73 = x.1.2.1 := by rw [g 14 0 73 (by omega)]; exact i1.1
        have m2 : υ 14 0 74 = x.1.2.2.1 := by rw [g 14 0 74 (by omega)]; exact i1.2.1
        have m3 : υ 14 0 75 = x.1.2.2.2.1 := by rw [g 14 0 75 (by omega)]; exact i1.2.2.1
        have m4 : ∀ q', q' < 10 → υ 103 0 q' = x.1.2.2.2.2 q' := fun q' hq' => by rw [g 103 0 q' (by omega)]; exact i1.2.2.2 q' hq'
        have st : ∀ y : Int, y = rH V q x p → (0 ≤ y ∧ y < ha V) → WP mX13_run 200 [vR 14 0, vU, vU, vI (n : Int), vI q, vI fr, vI x.1.1, vI (k : Int), vI (p : Int), vU, vU, vI (ans V x.1.1 p), vU] [vI y] υ Q := fun y hy hyb => by
          have hwi := isSt_wi hV b1 hpf.1 hpf.2 hyb.1 hyb.2
          have hwb := st_bd hV hwi
          have hsl := hV.sl y.toNat (by omega)
          have er : rst V home fr q x = (wst V home x.1 p y, lcg (lcg (lcg x.2))) := by
            unfold rst
            rw [← ep, hy]
          rw [er] at ih'
          have eW : x.1.1 + (y - x.1.1 / ha V ^ p % ha V) * ha V ^ p = wi V x.1.1 p y := rfl
          have eH : x.1.1 / ha V ^ p % ha V = hab V x.1.1 p := rfl
          have wb : wbd V (k + 1) (wst V home x.1 p y) := wbd.st hV ⟨b1, b2', b3, b4, b5⟩ hpf.1 hpf.2 hyb
          have s238 : ∀ ω : St, FR (fun c i' k' => i' = 0 ∧ c = 14 ∧ (k' = 73 ∨ k' = 74)) υ ω → ω 14 0 73 = (wst V home x.1 p y).2.1 → ω 14 0 74 = (wst V home x.1 p y).2.2.1 → WP mX13_run 238 [vR 14 0, vU, vU, vI (n : Int), vI q, vI fr, vI x.1.1, vI (k : Int), vI (p : Int), vU, vU, vU, vI y] [] ω Q := fun ω o1 e2 e3 => by
            have go : ∀ c i' k', ¬ (i' = 0 ∧ c = 14 ∧ (k' = 73 ∨ k' = 74)) → ω c i' k' = υ c i' k' := fun c i' k' z => o1 c i' k' z
            have F5 : FR rnP σ ω := f4.tr (o1.wk (fun c i j z => by unfold rnP; omega))
            have e83 : ω 83 0 (wi V x.1.1 p y).toNat = home (wi V x.1.1 p y) := by
              rw [F5 83 0 _ (fun z => by unfold rnP at z; omega)]; exact hri _ hwi
            have fin : ∀ v : Int, v = (wst V home x.1 p y).2.2.2.1 → in32 ((k : Int) + 1) ∧ WP mX13_run 111 [vR 14 0, vU, vU, vI (n : Int), vI q, vI fr, vI (wi V x.1.1 p y), vI ((k : Int) + 1), vU, vU, vU, vU, vU] [] (up (up ω 103 0 p (x.1.2.2.2.2 p + 1)) 14 0 75 v) Q := fun v hv => by
              refine ⟨by unfold in32; omega, ih' _ ((F5.u (by unfold rnP; omega)).u (by unfold rnP; omega)) ⟨?_, ?_, ?_, fun q' hq' => ?_⟩ wb ?_ ?_⟩
              · rw [up_j (by omega), up_c (by omega)]; exact e2
              · rw [up_j (by omega), up_c (by omega)]; exact e3
              · rw [up_s]; exact hv
              · rw [up_c (by omega)]
                show _ = (if q' = p then x.1.2.2.2.2 q' + 1 else x.1.2.2.2.2 q')
                by_cases e : q' = p
                · rw [if_pos e, e, up_s]
                · rw [if_neg e, up_j e, go 103 0 q' (by omega)]; exact m4 q' hq'
              · rw [up_j (by omega), up_c (by omega), go 14 0 72 (by omega)]; exact g7
              · rw [up_j (by omega), up_c (by omega), go 14 0 72 (by omega), g7]; exact hl3
            refine b_X13_run_238 ?_
            rw [Int.toNat_natCast, go 77 0 p (by omega), go 14 0 11 (by omega), hT'.2.2.2.2.2.2.2.1 p (by omega), hT'.2.1, eW, eH, e83, go 103 0 p (by omega), m4 p (by omega), go 14 0 75 (by omega), m3]
            refine ⟨by omega, by unfold in32; omega, by omega, ⟨by omega, by omega, hsb.1, hpw, Int.ediv_nonneg hsb.1 (Int.le_of_lt hpw), by omega, by unfold in32; omega, by omega, by omega, by unfold wi at hwb; unfold in32; omega, by unfold in32; omega⟩, hwb, fun he => ⟨by unfold in32; omega, fin _ ?_⟩, fun he => ⟨by unfold in32; omega, fin _ ?_⟩⟩
            · show _ = (if home (wi V x.1.1 p y) = -1 then x.1.2.2.2.1 else x.1.2.2.2.1 + 1)
              rw [if_neg he]
            · show _ = (if home (wi V x.1.1 p y) = -1 then x.1.2.2.2.1 else x.1.2.2.2.1 + 1)
              rw [if_pos he, Int.add_zero]
          refine b_X13_run_200 ?_
          rw [band_ne hb2.1 (by omega) hyb.1 (by omega), band_eq0 hb2.1 (by omega) hyb.1 (by omega), m1, m2, hT'.2.2.2.2.1 y.toNat (by omega)]
          refine ⟨fun z => s238 υ FR.rf ?_ ?_, fun z => ⟨by unfold in32; omega, by omega, by unfold in32; omega, s238 _ ((FR.rf.u (by omega)).u (by omega)) ?_ ?_⟩⟩
          · rw [m1]; show x.1.2.1 = (if tbit (ans V x.1.1 p) y.toNat = true then x.1.2.1 else x.1.2.1 + 1); rw [if_pos z]
          · rw [m2]; show x.1.2.2.1 = (if tbit (ans V x.1.1 p) y.toNat = true then x.1.2.2.1 else x.1.2.2.1 + sl V y.toNat); rw [if_pos z]
          · rw [up_j (by omega), up_s]; show x.1.2.1 + 1 = (if tbit (ans V x.1.1 p) y.toNat = true then x.1.2.1 else x.1.2.1 + 1); rw [if_neg z]
          · rw [up_s]; show x.1.2.2.1 + sl V y.toNat = (if tbit (ans V x.1.1 p) y.toNat = true then x.1.2.2.1 else x.1.2.2.1 + sl V y.toNat); rw [if_neg z]
        refine b_X13_run_155 ?_
        rw [e78, hT'.2.1]
        have hn1 := Int.emod_nonneg (drw (lcg (lcg x.2))) (show bcnt (ans V x.1.1 p) ≠ 0 by omega)
        have hn2 := Int.emod_lt_of_pos (drw (lcg (lcg x.2))) (show 0 < bcnt (ans V x.1.1 p) by omega)
        have ho1 := Int.emod_nonneg (drw (lcg (lcg x.2))) (show ha V ≠ 0 by omega)
        have ho2 := Int.emod_lt_of_pos (drw (lcg (lcg x.2))) (show 0 < ha V by omega)
        refine ⟨by unfold in32; omega, by unfold in32; omega, by omega, fun z => d_bits hb2.1 (by omega) ?_, fun z => ⟨⟨hd3.1, by omega⟩, st _ ?_ ⟨ho1, ho2⟩⟩⟩
        · have hne := (hx9.resolve_right (fun w => by omega)).2
          show WP mX13_run 196 [vR 14 0, vU, vU, vI (n : Int), vI q, vI fr, vI x.1.1, vI (k : Int), vI (p : Int), vU, vU, vI (ans V x.1.1 p), vU] [vI (bcnt (ans V x.1.1 p)), vI (drw (lcg (lcg x.2))), vI (ans V x.1.1 p)] υ Q
          obtain ⟨k2, hk2⟩ : ∃ k2 : Nat, drw (lcg (lcg x.2)) % bcnt (ans V x.1.1 p) = k2 := ⟨(drw (lcg (lcg x.2)) % bcnt (ans V x.1.1 p)).toNat, by omega⟩
          refine b_X13_run_196 ⟨⟨hd3.1, by omega⟩, ?_⟩
          rw [hk2]
          refine d_oneOf ⟨hb2.1, by omega⟩ (by omega) (fun hy10 hyt => ?_)
          refine st _ ?_ ⟨by omega, ans_lt hV x.1.1 hpf.1 hyt⟩
          unfold rH
          rw [if_neg hne, hk2, Int.toNat_natCast]
        · have he := (hx9.resolve_left (fun w => z w.1)).2
          unfold rH
          rw [if_pos he]
      exact b_X13_run_138 ⟨⟨hd2.1, by omega⟩, fun z => third 0 (Or.inl ⟨rfl, z⟩), fun z => third 1 (Or.inr ⟨rfl, z⟩)⟩
  -- nobody has moved yet
  have e72 : (up (up (up (up σ 14 0 72 sd) 14 0 73 0) 14 0 74 0) 14 0 75 0) 14 0 72 = sd := by rw [up_j (by omega), up_j (by omega), up_j (by omega), up_s]
  have e73 : (up (up (up (up σ 14 0 72 sd) 14 0 73 0) 14 0 74 0) 14 0 75 0) 14 0 73 = 0 := by rw [up_j (by omega), up_j (by omega), up_s]
  have e74 : (up (up (up (up σ 14 0 72 sd) 14 0 73 0) 14 0 74 0) 14 0 75 0) 14 0 74 = 0 := by rw [up_j (by omega), up_s]
  have e75 : (up (up (up (up σ 14 0 72 sd) 14 0 73 0) 14 0 74 0) 14 0 75 0) 14 0 75 = 0 := up_s _ _ _ _ _
  have F0 : FR rnP σ (up (up (up (up σ 14 0 72 sd) 14 0 73 0) 14 0 74 0) 14 0 75 0) := (((FR.rf.u (by unfold rnP; omega)).u (by unfold rnP; omega)).u (by unfold rnP; omega)).u (by unfold rnP; omega)
  generalize (up (up (up (up σ 14 0 72 sd) 14 0 73 0) 14 0 74 0) 14 0 75 0) = τ0 at *
  have init : ∀ r k : Nat, r + k = 10 → ∀ τ : St, FR (fun c i _ => c = 103 ∧ i = 0) τ0 τ → (∀ y, y < k → τ 103 0 y = 0) → WP mX13_run 84 [vR 14 0, vI s, vU, vI (n : Int), vI q, vI fr, vI (k : Int), vU, vU, vU, vU, vU, vU] [] τ Q := by
    intro r
    induction r with
    | zero =>
      intro k hk τ f1 h0
      have g : ∀ j, τ 14 0 j = τ0 14 0 j := fun j => f1 14 0 j (fun z => by omega)
      refine b_X13_run_84 ⟨fun _ => key n 0 (by omega) τ (F0.tr (f1.wk (fun c i j z => by unfold rnP; omega))) ⟨by rw [g, e73]; rfl, by rw [g, e74]; rfl, by rw [g, e75]; rfl, fun q' hq' => h0 q' (by omega)⟩ ⟨hs, ⟨by show (0 : Int) ≤ 0; omega, by show (0 : Int) ≤ ((0 : Nat) : Int); omega⟩, ⟨by show (0 : Int) ≤ 0; omega, by show (0 : Int) ≤ 3 * ((0 : Nat) : Int); omega⟩, ⟨by show (0 : Int) ≤ 0; omega, by show (0 : Int) ≤ ((0 : Nat) : Int); omega⟩, fun q' => ⟨by show (0 : Int) ≤ 0; omega, by show (0 : Int) ≤ ((0 : Nat) : Int); omega⟩⟩ (by rw [g, e72]; rfl) (by rw [g, e72]; exact hsd), fun z => by omega⟩
    | succ r ih =>
      intro k hk τ f1 h0
      refine b_X13_run_84 ⟨fun z => by omega, fun _ => ⟨by omega, by unfold in32; omega, ?_⟩⟩
      rw [Int.toNat_natCast]
      refine ih (k + 1) (by omega) _ (f1.u ⟨rfl, rfl⟩) (fun y hy => ?_)
      by_cases e : y = k
      · rw [e, up_s]
      · rw [up_j e]; exact h0 y (by omega)
  exact init 10 0 (by omega) τ0 FR.rf (fun y hy => by omega)
theorem INV.rnn (hI : INV V σ) (f : FR (fun c i j => (kC c i j ∨ kM c i j) ∨ (i = 0 ∧ (c = 11 ∨ c = 62 ∨ c = 103 ∨ (c = 14 ∧ (72 ≤ j ∧ j ≤ 76))))) σ τ) (h1 : ILD V τ) (h2 : ICC V τ) (h3 : IMD V τ) (h4 : IRN τ) : INV V τ := by
  obtain ⟨a1, a2, a3, a4, a5, a6, a7, a8, a9, a10, a11, a12⟩ := hI
  refine ⟨a1.fr f ?_, a2.fr f ?_, a3.fr f ?_, h1, h2, h3, a7.fr f ?_, a8.fr f ?_, a9.fr f ?_, h4, a11.fr f ?_, a12.fr f ?_⟩ <;> (unfold kC kM; omega)
theorem pr_run {s sd n q : Int} (hsd : in32 sd) (hI : INV V σ) : PRC mX11_run mX13_run [vR 12 0, vI s, vI sd, vI n, vI q] [vR 14 0, vI s, vI sd, vI n, vI q, vU, vU, vU, vU, vU, vU, vU, vU] σ := by
  have hV := hI.1.1
  have hA := hI.1.2.1
  have hT := hI.1.2.2.1
  have hFf := hA.2.2.1
  have hfr : frN V (σ 10 0 9) := ⟨hFf.1, hFf.2.1⟩
  have bc0 : ∀ fr, frN V fr → (fr = 0 ↔ bcnt fr = 0) := fun fr hfr => ⟨fun z => by rw [z]; rfl, fun z => (sub_eq (m := 0) ⟨by omega, fun p hp => absurd hp (tbit_0 p)⟩ hfr.1 (by rw [z]; rfl)).symm⟩
  unfold in32 at hsd
  by_cases g : isSt V s ∧ 0 ≤ sd ∧ (1 ≤ n ∧ n ≤ 5000) ∧ (2 ≤ q ∧ q ≤ 1000)
  · obtain ⟨hs, hsd0, hn, hq⟩ := g
    obtain ⟨m, rfl⟩ : ∃ m : Nat, n = m := ⟨n.toNat, by omega⟩
    have hb := bcnt_bd (σ 10 0 9)
    refine b_X11_run_0 (c_isState hV hA.1 hA.2.1 ?_)
    show WP mX11_run 11 [vR 12 0, vI s, vI sd, vI (m : Int), vI q] [vI (b2 (isSt V s))] σ _
    refine b_X11_run_11 ⟨fun z => absurd hs (b2_eq z), fun _ => ⟨fun z => by omega, fun _ => ⟨fun z => by omega, fun _ => ⟨fun z => by omega, fun _ => ⟨fun _ => ⟨fun zF => ?_, fun zF => ⟨-4, rfl, ?_⟩⟩, fun z => absurd hq z⟩⟩⟩⟩⟩
    · rw [hFf.2.2] at zF
      refine c_readyI hV hA hI.2.2.2.1 hI.2.2.2.2.1 (fun τ f1 t1 t2 t3 t4 t5 t6 t7 => ?_)
      show WP mX11_run 64 [vR 12 0, vI s, vI sd, vI (m : Int), vI q] [] τ _
      have e109 : τ 10 0 9 = σ 10 0 9 := f1 10 0 9 (fun z => by unfold kC at z; omega)
      refine b_X11_run_64 (c_wander (home := hm τ 0) hV t1 t2 (fun s' _ => rfl) hs ⟨hsd0, by omega⟩ (by omega) hq.1 (by rw [e109]; omega) (fun υ u1 u2 u3 => ?_))
      rw [e109] at u3
      show WP mX11_run 80 [vR 12 0, vU, vU, vU, vU] [] υ _
      refine b_X11_run_80 ⟨_, rfl, ?_⟩
      have G1 : FR (fun c i j => kC c i j ∨ (i = 0 ∧ (c = 11 ∨ c = 62))) σ υ := (f1.wk (fun c i j z => Or.inl z)).tr (u1.wk (fun c i j z => Or.inr z))
      have IV : IVV V υ := hI.1.fr G1 (by unfold kC; omega)
      have IM : IMD V υ := hI.2.2.2.2.2.1.fr G1 (by unfold kC; omega)
      refine b_X13_run_0 (d_isState hV IV.2.2.1 ?_)
      show WP mX13_run 5 [vR 14 0, vI s, vI sd, vI (m : Int), vI q, vU, vU, vU, vU, vU, vU, vU, vU] [vI (b2 (isSt V s))] υ _
      refine b_X13_run_5 ⟨fun z => absurd hs (b2_eq z), fun _ => ⟨fun z => by omega, fun _ => ⟨fun z => absurd hn z, fun _ => ⟨fun _ => d_freeSet hV IV.2.2.1 (fun fr hfr2 => ?_), fun z => absurd hq z⟩⟩⟩⟩
      have efr := hfr.un hfr2
      subst efr
      show WP mX13_run 46 [vR 14 0, vI s, vI sd, vI (m : Int), vI q, vU, vU, vU, vU, vU, vU, vU, vU] [vI (σ 10 0 9)] υ _
      refine b_X13_run_46 ⟨fun _ => d_makeI IV IM (fun μ m1 m2 m3 m4 m5 => ?_), fun z => absurd ((bc0 _ hfr).mp z) zF⟩
      refine d_run (home := hm τ 0) hV m2.2.2.1 m3 (fun s' hs' => ((t3.1.uniq hV m4.1).1 s' hs').symm) hs ⟨hsd0, by omega⟩ (by omega) hq.1 hfr (by omega) (fun π q1 q2 q3 => ⟨by rw [u3.1], V, ?_⟩)
      have K1 : FR (fun c i j => kM c i j ∨ (i = 0 ∧ (c = 103 ∨ (c = 14 ∧ (72 ≤ j ∧ j ≤ 76))))) υ π := (m1.wk (fun c i j z => Or.inl z)).tr (q1.wk (fun c i j z => Or.inr (by unfold rnP at z; omega)))
      have k11 : ∀ j, π 11 0 j = υ 11 0 j := fun j => K1 11 0 j (fun z => by unfold kM at z; omega)
      refine hI.rnn ((G1.wk (fun c i j z => z.elim (fun a => Or.inl (Or.inl a)) (fun b => Or.inr (by omega)))).tr (K1.wk (fun c i j z => z.elim (fun a => Or.inl (Or.inr a)) (fun b => Or.inr (by omega))))) ((t6.fr u1 (by omega)).fr K1 (by unfold kM; omega)) ((t7.fr u1 (by omega)).fr K1 (by unfold kM; omega)) (m5.fr q1 (by unfold rnP; omega)) (Or.inr ⟨by rw [k11]; exact u2, q2, ?_, ?_, ?_, fun p hp => ?_⟩)
      · rw [k11, u3.2.1, q3.1]
      · rw [k11, u3.2.2.1, q3.2.1]
      · rw [k11, u3.2.2.2.1, q3.2.2.1]
      · rw [K1 62 0 p (fun z => by unfold kM at z; omega), u3.2.2.2.2 p hp, q3.2.2.2 p hp]
    · rw [hFf.2.2] at zF
      refine b_X13_run_0 (d_isState hV hT ?_)
      show WP mX13_run 5 [vR 14 0, vI s, vI sd, vI (m : Int), vI q, vU, vU, vU, vU, vU, vU, vU, vU] [vI (b2 (isSt V s))] σ _
      refine b_X13_run_5 ⟨fun z => absurd hs (b2_eq z), fun _ => ⟨fun z => by omega, fun _ => ⟨fun z => absurd hn z, fun _ => ⟨fun _ => d_freeSet hV hT (fun fr hfr2 => ?_), fun z => absurd hq z⟩⟩⟩⟩
      have efr := hfr.un hfr2
      subst efr
      exact b_X13_run_46 ⟨fun z => absurd ((bc0 _ hfr).mpr zF) z, fun _ => ⟨rfl, V, hI⟩⟩
  · refine PRC.same (-2) hI (fun Q h => ?_) (fun Q h => ?_)
    · refine b_X11_run_0 (c_isState hV hA.1 hA.2.1 ?_)
      exact b_X11_run_11 ⟨fun _ => h, fun z => ⟨fun _ => h, fun z1 => ⟨fun _ => h, fun z2 => ⟨fun _ => h, fun z3 => ⟨fun z4 => absurd ⟨b2_ne z, z1, ⟨z2, z3⟩, z4⟩ g, fun _ => h⟩⟩⟩⟩⟩
    · refine b_X13_run_0 (d_isState hV hT ?_)
      exact b_X13_run_5 ⟨fun _ => h, fun z => ⟨fun _ => h, fun z1 => ⟨fun _ => h, fun z2 => ⟨fun z4 => absurd ⟨b2_ne z, z1, z2, z4⟩ g, fun _ => h⟩⟩⟩⟩
end Run3
