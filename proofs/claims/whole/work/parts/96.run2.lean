/-! ===== run ===== -/
noncomputable def rH (V : Vy) (q : Int) (x : Wk × Int) (p : Nat) : Int := if drw (lcg x.2) % q = 0 then drw (lcg (lcg x.2)) % ha V else ((nbF (ans V x.1.1 p) (drw (lcg (lcg x.2)) % bcnt (ans V x.1.1 p)).toNat : Nat) : Int)
noncomputable def rst (V : Vy) (home : Int → Int) (fr q : Int) (x : Wk × Int) : Wk × Int := (wst V home x.1 (nbF fr (drw x.2 % bcnt fr).toNat) (rH V q x (nbF fr (drw x.2 % bcnt fr).toNat)), lcg (lcg (lcg x.2)))
noncomputable def rit (V : Vy) (home : Int → Int) (fr q : Int) (x : Wk × Int) : Nat → Wk × Int
  | 0 => x
  | k + 1 => rst V home fr q (rit V home fr q x k)
def MW (σ : St) (w : Wk) : Prop := σ 14 0 73 = w.2.1 ∧ σ 14 0 74 = w.2.2.1 ∧ σ 14 0 75 = w.2.2.2.1 ∧ ∀ q, q < 10 → σ 103 0 q = w.2.2.2.2 q
section Run2
variable {σ τ : St} {Q : Res → St → Prop} {V : Vy} {home : Int → Int} {fr q : Int}
theorem c_wander {s sd : Int} {n : Nat} (hV : VOK V) (hA : VA σ 0 V) (hR : REP σ 0 V) (hhm : ∀ s, isSt V s → hm σ 0 s = home s) (hs : isSt V s) (hsd : 0 ≤ sd ∧ sd < 2147483648) (hn : n ≤ 5000) (hq : 2 ≤ q) (hF1 : 1 ≤ bcnt (σ 10 0 9)) (h : ∀ τ, FR (fun c i _ => i = 0 ∧ (c = 11 ∨ c = 62)) σ τ → τ 11 0 0 ≠ 0 → CW τ 0 (rit V home (σ 10 0 9) q ((s, 0, 0, 0, fun _ => 0), sd) n).1 → Q (.inl none) τ) : WP mX10_wander 0 [vR 11 0, vR 2 0, vI s, vI sd, vI (n : Int), vI q, vU, vU, vU, vU, vU, vU, vU] [] σ Q := by
  have hpe := hV.pe
  have hha := hV.ha
  have hFF := hA.2.2.1
  have hbb := bcnt_bd (σ 10 0 9)
  refine b_X10_wander_0 (c_begin hs (fun τ0 f0 w0 e0 _ => ?_))
  show WP mX10_wander 11 [vR 11 0, vR 2 0, vU, vI sd, vI (n : Int), vI q, vR 10 0, vU, vU, vU, vU, vU, vU] [] τ0 Q
  refine b_X10_wander_11 ?_
  have key : ∀ r k : Nat, r + k = n → ∀ τ, FR (fun c i _ => i = 0 ∧ (c = 11 ∨ c = 62)) σ τ → τ 11 0 0 ≠ 0 → CW τ 0 (rit V home (σ 10 0 9) q ((s, 0, 0, 0, fun _ => 0), sd) k).1 → wbd V k (rit V home (σ 10 0 9) q ((s, 0, 0, 0, fun _ => 0), sd) k).1 → τ 11 0 7 = (rit V home (σ 10 0 9) q ((s, 0, 0, 0, fun _ => 0), sd) k).2 → (0 ≤ τ 11 0 7 ∧ τ 11 0 7 < 2147483648) → WP mX10_wander 20 [vR 11 0, vR 2 0, vU, vU, vI (n : Int), vI q, vR 10 0, vI (k : Int), vU, vU, vU, vU, vU] [] τ Q := by
    intro r
    induction r with
    | zero =>
      intro k hk τ f1 i0 i1 i2 i3 i4
      have hkn : k = n := by omega
      subst hkn
      exact b_X10_wander_20 ⟨fun _ => h τ f1 i0 i1, fun z => by omega⟩
    | succ r ih =>
      intro k hk τ f1 i0 i1 i2 i3 i4
      have hrs : rit V home (σ 10 0 9) q ((s, 0, 0, 0, fun _ => 0), sd) (k + 1) = rst V home (σ 10 0 9) q (rit V home (σ 10 0 9) q ((s, 0, 0, 0, fun _ => 0), sd) k) := rfl
      generalize (rit V home (σ 10 0 9) q ((s, 0, 0, 0, fun _ => 0), sd) k) = x at *
      have hd1 := drw_bd x.2
      have hd2 := drw_bd (lcg x.2)
      have hd3 := drw_bd (lcg (lcg x.2))
      have hl1 := lcg_bd x.2
      have hl2 := lcg_bd (lcg x.2)
      have hl3 := lcg_bd (lcg (lcg x.2))
      have e109 : τ 10 0 9 = σ 10 0 9 := f1 10 0 9 (fun z => by omega)
      have e1010 : ∀ υ, FR (fun c i _ => i = 0 ∧ (c = 11 ∨ c = 62)) σ υ → υ 10 0 10 = bcnt (σ 10 0 9) := fun υ f => by rw [f 10 0 10 (fun z => by omega)]; exact hFF.2.2
      refine b_X10_wander_20 ⟨fun z => by omega, fun _ => c_draws i4 ?_⟩
      rw [i3, e109]
      show WP mX10_wander 36 [vR 11 0, vR 2 0, vU, vU, vI (n : Int), vI q, vR 10 0, vI (k : Int), vU, vU, vU, vU, vU] [vI (drw x.2), vI (σ 10 0 9)] _ Q
      have f2 : FR (fun c i _ => i = 0 ∧ (c = 11 ∨ c = 62)) σ (up τ 11 0 7 (lcg x.2)) := f1.u (by omega)
      refine b_X10_wander_36 ?_
      rw [e1010 _ f2, show max 1 (bcnt (σ 10 0 9)) = bcnt (σ 10 0 9) by omega]
      have hm1 := Int.emod_nonneg (drw x.2) (show bcnt (σ 10 0 9) ≠ 0 by omega)
      have hm2 := Int.emod_lt_of_pos (drw x.2) (show 0 < bcnt (σ 10 0 9) by omega)
      obtain ⟨k1, hk1⟩ : ∃ k1 : Nat, drw x.2 % bcnt (σ 10 0 9) = k1 := ⟨(drw x.2 % bcnt (σ 10 0 9)).toNat, by omega⟩
      rw [hk1]
      refine ⟨⟨hd1.1, by omega⟩, c_bitAt hFF.1 (by omega) (fun hp10 hpt => ?_)⟩
      have hpf := (hFF.2.1 _).mp hpt
      have ep : nbF (σ 10 0 9) k1 = nbF (σ 10 0 9) (drw x.2 % bcnt (σ 10 0 9)).toNat := by rw [hk1, Int.toNat_natCast]
      generalize hp : nbF (σ 10 0 9) k1 = p at *
      show WP mX10_wander 49 [vR 11 0, vR 2 0, vU, vU, vI (n : Int), vI q, vR 10 0, vI (k : Int), vU, vU, vU, vU, vU] [vI (p : Int)] _ Q
      refine b_X10_wander_49 (c_draws (by rw [up_s]; exact hl1) ?_)
      rw [up_s]
      show WP mX10_wander 55 [vR 11 0, vR 2 0, vU, vU, vI (n : Int), vI q, vR 10 0, vI (k : Int), vI (p : Int), vU, vU, vU, vU] [vI (drw (lcg x.2))] _ Q
      have f3 : FR (fun c i _ => i = 0 ∧ (c = 11 ∨ c = 62)) σ (up (up τ 11 0 7 (lcg x.2)) 11 0 7 (lcg (lcg x.2))) := f2.u (by omega)
      have f4 : FR (fun c i _ => i = 0 ∧ (c = 11 ∨ c = 62)) σ (up (up (up τ 11 0 7 (lcg x.2)) 11 0 7 (lcg (lcg x.2))) 11 0 7 (lcg (lcg (lcg x.2)))) := f3.u (by omega)
      -- the third draw, then the step
      have g : ∀ c i' k', ¬ (c = 11 ∧ i' = 0 ∧ k' = 7) → (up (up (up τ 11 0 7 (lcg x.2)) 11 0 7 (lcg (lcg x.2))) 11 0 7 (lcg (lcg (lcg x.2)))) c i' k' = τ c i' k' := fun c i' k' hc => by
        unfold up
        rw [if_neg (fun z => hc z), if_neg (fun z => hc z), if_neg (fun z => hc z)]
      have g7 : (up (up (up τ 11 0 7 (lcg x.2)) 11 0 7 (lcg (lcg x.2))) 11 0 7 (lcg (lcg (lcg x.2)))) 11 0 7 = lcg (lcg (lcg x.2)) := up_s _ _ _ _ _
      have third : ∀ x9 : Int, ((x9 = 0 ∧ drw (lcg x.2) % q ≠ 0) ∨ (x9 = 1 ∧ drw (lcg x.2) % q = 0)) → WP mX10_draw 0 [vR 11 0] [] (up (up τ 11 0 7 (lcg x.2)) 11 0 7 (lcg (lcg x.2))) (CT mX10_wander 76 [vR 11 0, vR 2 0, vU, vU, vI (n : Int), vI q, vR 10 0, vI (k : Int), vI (p : Int), vI x9, vU, vU, vU] [] Q) := fun x9 hx9 => by
        refine c_draws (by rw [up_s]; exact hl2) ?_
        rw [up_s]
        show WP mX10_wander 76 [vR 11 0, vR 2 0, vU, vU, vI (n : Int), vI q, vR 10 0, vI (k : Int), vI (p : Int), vI x9, vU, vU, vU] [vI (drw (lcg (lcg x.2)))] _ Q
        generalize (up (up (up τ 11 0 7 (lcg x.2)) 11 0 7 (lcg (lcg x.2))) 11 0 7 (lcg (lcg (lcg x.2)))) = υ at *
        have hsb := st_bd hV i2.1
        have e1 : υ 11 0 1 = x.1.1 := by rw [g 11 0 1 (by omega)]; exact i1.1
        have hA' : VA υ 0 V := hA.fr f4 (fun c k hc z => by omega)
        have hR' : REP υ 0 V := hR.fr f4 (fun k z => by omega)
        have hrow := hR' x.1.1 i2.1 p hpf.1
        have hb1 := hab_bd hV x.1.1 p
        have hb2 := ans_bd hV x.1.1 (p := p) hpf.1
        have hbc := bc_ans (s := x.1.1) (p := p) hV hpf.1
        have st : ∀ y : Int, y = rH V q x p → (0 ≤ y ∧ y < ha V) → WP mX10_wander 126 [vR 11 0, vR 2 0, vU, vU, vI (n : Int), vI q, vR 10 0, vI (k : Int), vI (p : Int), vU, vU, vU, vU] [vI y] υ Q := fun y hy hyb => by
          refine b_X10_wander_126 (c_step (home := home) hV hA' hR' (fun s' hs' => by rw [← hhm s' hs']; exact f4 27 0 _ (fun z => by omega)) (show k ≤ 5000 by omega) i2 hpf.1 hpf.2 hyb ⟨e1, by rw [g 11 0 2 (by omega)]; exact i1.2.1, by rw [g 11 0 3 (by omega)]; exact i1.2.2.1, by rw [g 11 0 4 (by omega)]; exact i1.2.2.2.1, fun q' hq' => by rw [g 62 0 q' (by omega)]; exact i1.2.2.2.2 q' hq'⟩ (fun ω o1 o2 => ?_))
          show WP mX10_wander 137 [vR 11 0, vR 2 0, vU, vU, vI (n : Int), vI q, vR 10 0, vI (k : Int), vU, vU, vU, vU, vU] [] ω Q
          have e7 : ω 11 0 7 = lcg (lcg (lcg x.2)) := by rw [o1 11 0 7 (fun z => by omega)]; exact g7
          have er : rst V home (σ 10 0 9) q x = (wst V home x.1 p y, lcg (lcg (lcg x.2))) := by
            unfold rst
            rw [← ep, hy]
          refine b_X10_wander_137 ⟨by unfold in32; omega, ih (k + 1) (by omega) ω (f4.tr (o1.wk (fun c i j z => by omega))) ?_ ?_ ?_ ?_ (by rw [e7]; exact hl3)⟩
          · rw [o1 11 0 0 (fun z => by omega), g 11 0 0 (by omega)]; exact i0
          · rw [hrs, er]; exact o2
          · rw [hrs, er]; exact i2.st hV hpf.1 hpf.2 hyb
          · rw [hrs, er]; exact e7
        refine b_X10_wander_76 ?_
        rw [e1, hrow, band15 (by omega) (by omega), show (16 * hab V x.1.1 p + ans V x.1.1 p) % 16 = ans V x.1.1 p by omega, show max 1 (bcnt (ans V x.1.1 p)) = bcnt (ans V x.1.1 p) by omega, hA'.1.ha]
        have hn1 := Int.emod_nonneg (drw (lcg (lcg x.2))) (show bcnt (ans V x.1.1 p) ≠ 0 by omega)
        have hn2 := Int.emod_lt_of_pos (drw (lcg (lcg x.2))) (show 0 < bcnt (ans V x.1.1 p) by omega)
        have ho1 := Int.emod_nonneg (drw (lcg (lcg x.2))) (show ha V ≠ 0 by omega)
        have ho2 := Int.emod_lt_of_pos (drw (lcg (lcg x.2))) (show 0 < ha V by omega)
        refine ⟨⟨by unfold in32; omega, by unfold in32; omega, by omega, by omega⟩, fun z => ⟨⟨by omega, by omega⟩, ⟨hd3.1, by omega⟩, ?_⟩, fun z => ⟨⟨hd3.1, by omega⟩, st _ ?_ ⟨ho1, ho2⟩⟩⟩
        · have hne := (hx9.resolve_right (fun w => by omega)).2
          obtain ⟨k2, hk2⟩ : ∃ k2 : Nat, drw (lcg (lcg x.2)) % bcnt (ans V x.1.1 p) = k2 := ⟨(drw (lcg (lcg x.2)) % bcnt (ans V x.1.1 p)).toNat, by omega⟩
          rw [hk2]
          refine c_bitAt ⟨hb2.1, by omega⟩ (by omega) (fun hy10 hyt => ?_)
          refine st _ ?_ ⟨by omega, ans_lt hV x.1.1 hpf.1 hyt⟩
          unfold rH
          rw [if_neg hne, hk2, Int.toNat_natCast]
        · have he := (hx9.resolve_left (fun w => z w.1)).2
          unfold rH
          rw [if_pos he]
      refine b_X10_wander_55 ?_
      rw [show max 1 q = q by omega]
      exact ⟨⟨hd2.1, by omega⟩, fun z => third 0 (Or.inl ⟨rfl, z⟩), fun z => third 1 (Or.inr ⟨rfl, z⟩)⟩
  have f1 : FR (fun c i _ => i = 0 ∧ (c = 11 ∨ c = 62)) σ (up τ0 11 0 7 sd) := (f0.wk (fun c i j z => by omega)).u (by omega)
  refine key n 0 (by omega) _ f1 (by rw [up_j (by omega), e0]; omega) ⟨?_, ?_, ?_, ?_, fun q' hq' => ?_⟩ ⟨hs, ⟨by show (0 : Int) ≤ 0; omega, by show (0 : Int) ≤ ((0 : Nat) : Int); omega⟩, ⟨by show (0 : Int) ≤ 0; omega, by show (0 : Int) ≤ 3 * ((0 : Nat) : Int); omega⟩, ⟨by show (0 : Int) ≤ 0; omega, by show (0 : Int) ≤ ((0 : Nat) : Int); omega⟩, fun q' => ⟨by show (0 : Int) ≤ 0; omega, by show (0 : Int) ≤ ((0 : Nat) : Int); omega⟩⟩ (up_s _ _ _ _ _) (by rw [up_s]; exact hsd)
  · rw [up_j (by omega)]; exact w0.1
  · rw [up_j (by omega)]; exact w0.2.1
  · rw [up_j (by omega)]; exact w0.2.2.1
  · rw [up_j (by omega)]; exact w0.2.2.2.1
  · rw [up_c (by omega)]; exact w0.2.2.2.2 q' hq'
end Run2
