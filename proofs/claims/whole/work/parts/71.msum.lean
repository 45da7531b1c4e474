/-! ===== the model's sumTo ===== -/
def wH (σ : St) (a b : Nat) : Int := σ 93 0 (12 * a + b)
def smP (c i j : Nat) : Prop := i = 0 ∧ (c = 94 ∨ c = 95 ∨ c = 96 ∨ c = 98 ∨ (c = 14 ∧ j = 65))
section MSum
variable {σ : St} {Q : Res → St → Prop}
theorem d_sumTo {N root : Nat} (hN : σ 14 0 51 = (N : Nat)) (hN12 : N ≤ 12) (hr : root < N) (hw0 : ∀ a b, a < N → b < N → a ≠ b → 0 ≤ wH σ a b ∧ wH σ a b ≤ 1000000000 ∧ (wH σ a b < 1000000000 → wH σ a b ≤ 1000)) (h1 : ∀ τ x, FR smP σ τ → MTS N root (fun a b => wH σ a b < 1000000000) (wH σ) x → Q (.inl (some (vI x))) τ) (h2 : ∀ τ, FR smP σ τ → (∀ f, ¬ TR N root (fun a b => wH σ a b < 1000000000) f) → Q (.inl (some (vI 1000000000))) τ) : WP mX13_sumTo 0 [vR 14 0, vI (root : Int), vU, vU, vU, vU, vU, vU] [] σ Q := by
  have rounds : ∀ (m n top : Nat) (acc : Int) (τ : St), n < m → n ≤ 12 → top < n → (0 ≤ acc ∧ acc + n * 12000 ≤ 144000) → FR smP σ τ → (∀ a b, a < n → b < n → a ≠ b → 0 ≤ Wm τ a b ∧ Wm τ a b ≤ 1000000000 ∧ (a ≠ top → Wm τ a b < 1000000000 → Wm τ a b ≤ 1000)) → (∀ x, MTS n top (fun a b => Wm τ a b < 1000000000) (Wm τ) x → MTS N root (fun a b => wH σ a b < 1000000000) (wH σ) (acc + x)) → ((∀ f, ¬ TR n top (fun a b => Wm τ a b < 1000000000) f) → ∀ f, ¬ TR N root (fun a b => wH σ a b < 1000000000) f) → WP mX13_sumTo 41 [vR 14 0, vU, vI (n : Int), vI (top : Int), vI acc, vU, vU, vU] [] τ Q := by
    intro m
    induction m with
    | zero => intro n top acc τ hm; omega
    | succ m ih =>
      intro n top acc τ hm hn ht hacc f1 hw hM hNo
      refine b_X13_sumTo_41 ?_
      have eW : ∀ υ : St, FR (fun c i _ => c = 95 ∧ i = 0) τ υ → ∀ a b, Wm υ a b = Wm τ a b := fun υ f a b => f 94 0 _ (fun z => by omega)
      have wk95 : ∀ υ : St, FR (fun c i _ => c = 95 ∧ i = 0) τ υ → FR smP σ υ := fun υ f => f1.tr (f.wk (fun c i j z => ⟨z.2, by omega⟩))
      -- behind the choice
      have behind : ∀ υ : St, FR (fun c i _ => c = 95 ∧ i = 0) τ υ → (∀ u, u < n → u ≠ top → υ 95 0 u = (gN υ u : Nat) ∧ gN υ u < n ∧ gN υ u ≠ u ∧ Wm τ u (gN υ u) < 1000000000 ∧ ∀ x, x < n → x ≠ u → Wm τ u (gN υ u) ≤ Wm τ u x) → (0 ≤ ts n top (Wm τ) (gN υ) ∧ ts n top (Wm τ) (gN υ) ≤ n * 1000) → WP mX13_findRings 0 [vR 14 0, vI (n : Int), vI (top : Int), vU, vU, vU, vU, vU] [] υ (CT mX13_sumTo 191 [vR 14 0, vU, vI (n : Int), vI (top : Int), vI (acc + ts n top (Wm τ) (gN υ)), vU, vU, vU] [] Q) := fun υ g1 g2 g3 => by
        have hC : CHP n top (fun a b => Wm τ a b < 1000000000) (Wm τ) (gN υ) := fun v hv hne => by
          have := g2 v hv hne
          exact ⟨this.2.1, this.2.2.1, this.2.2.2.1, fun u hu hun _ => this.2.2.2.2 u hu hun⟩
        refine d_findRings hn ht (fun v hv hne => ⟨(g2 v hv hne).1, (g2 v hv hne).2.1⟩) (fun ω o1 o2 => ?_) (fun ω k n' mk nm o1 o2 o3 o4 o5 o6 o7 o8 o9 o10 => ?_)
        · show WP mX13_sumTo 191 [vR 14 0, vU, vI (n : Int), vI (top : Int), vI (acc + ts n top (Wm τ) (gN υ)), vU, vU, vU] [vI 0] ω Q
          refine b_X13_sumTo_191 ⟨fun z => absurd rfl z, fun _ => ?_⟩
          obtain ⟨mk, nm, u2⟩ := o2
          refine h1 ω _ ((wk95 υ g1).tr (o1.wk (fun c i j z => ⟨z.1, by have := z.2; omega⟩))) (hM _ (MTS.of hC ?_))
          obtain ⟨dp, hdp⟩ := u2.2.2.2.2.2.2.2.2.1
          refine ⟨dp, fun v hv hne => ?_⟩
          have hc := hC v hv hne
          refine ⟨hc.1, hc.2.1, hc.2.2.1, hdp v hv (u2.2.2.1 v hv hne) ?_⟩
          rcases u2.2.2.2.2.1 v hv with z | ⟨_, i, i1, _⟩
          · exact z
          · omega
        · have F2 : FR smP σ ω := (wk95 υ g1).tr (o1.wk (fun c i j z => ⟨z.1, by have := z.2; omega⟩))
          have eW2 : Wm ω = Wm τ := by
            funext a b
            rw [← eW υ g1 a b]
            exact o1 94 0 _ (fun z => by unfold frgP at z; omega)
          have e95 : ∀ a, ω 95 0 a = υ 95 0 a := fun a => o1 95 0 _ (fun z => by unfold frgP at z; omega)
          have eg : gN ω = gN υ := by funext a; unfold gN; rw [e95]
          have hsg : ∀ a b, a < n → b < n → k ≤ rN ω a → rN ω a = rN ω b → a = b := fun a b ha hb hk he => by
            refine o9 a b ha hb ?_ he
            rcases o4.2.2.2.2.1 a ha with z | ⟨_, i, i1, i2⟩
            · exact z
            · have := o7 a ha (by omega)
              omega
          have hn'n : n' < n := by
            obtain ⟨v0, w1, w2⟩ := o4.2.2.2.2.2.2.2.1 0 (by omega)
            have hvt : v0 ≠ top := fun z => by
              rcases o4.2.2.2.2.1 v0 w1 with q | q
              · omega
              · exact q.1 (by rw [z]; exact o4.2.1)
            have hc := hC v0 w1 hvt
            have e6 := o4.2.2.2.2.2.1 v0 w1 (by omega)
            have x1 := o7 v0 w1 (by omega)
            have x2 := o7 (gN υ v0) hc.1 (by omega)
            exact fewer o10 w1 hc.1 (fun z => hc.2.1 z.symm) (by omega)
          show WP mX13_sumTo 191 [vR 14 0, vU, vI (n : Int), vI (top : Int), vI (acc + ts n top (Wm τ) (gN υ)), vU, vU, vU] [vI (k : Int)] ω Q
          refine b_X13_sumTo_191 ⟨fun _ => ?_, fun z => by omega⟩
          refine d_drawn hn (by omega) o5 o6 (fun a ha hne => by
            have := g2 a ha hne
            rw [e95, eg, eW2]; exact ⟨this.1, this.2.1, this.2.2.1, this.2.2.2.1⟩) (fun a b ha hb hne => by rw [eW2]; exact ⟨(hw a b ha hb hne).1, (hw a b ha hb hne).2.1⟩) (fun a b ha hb hat hne => by rw [eW2, eg]; exact (g2 a ha hat).2.2.2.2 b hb (fun z => hne z.symm)) hsg (fun θ p1 p2 => ?_)
          rw [eW2, eg] at p2
          have F3 : FR smP σ θ := F2.tr (p1.wk (fun c i j z => ⟨z.2, by have := z.1; omega⟩))
          have e96 : ∀ a, θ 96 0 a = ω 96 0 a := fun a => p1 96 0 _ (fun z => by omega)
          show WP mX13_sumTo 209 [vR 14 0, vU, vU, vI (top : Int), vI (acc + ts n top (Wm τ) (gN υ)), vU, vU, vU] [vI (n' : Int)] θ Q
          refine b_X13_sumTo_209 ⟨⟨by omega, by omega⟩, ?_⟩
          rw [Int.toNat_natCast, e96, (o6 top ht).1]
          have rc := round_conG (ad := fun a b => Wm τ a b < 1000000000) (ad' := fun a b => Wm θ a b < 1000000000) (w := Wm τ) (w' := Wm θ) (nm := rN ω) (n' := n') ht hC o4 o2 (fun a ha => (o6 a ha).2) o7 o9 o10 (fun A B hA hB hAB hAt => (p2 A B hA hB hAB).2 hAt)
          refine ih n' (rN ω top) _ θ (by omega) (by omega) (o6 top ht).2 ⟨by omega, by omega⟩ F3 (fun A B hA hB hAB => ?_) (fun x hx => ?_) (fun hno => hNo (rc.2.2 hno))
          · obtain ⟨q1, q2⟩ := p2 A B hA hB hAB
            refine ⟨q1.1, q1.2, fun e hlt => ?_⟩
            obtain ⟨a, b, s1, s2, s3, s4, s5, s6⟩ := (q2 e).2 hlt
            have hne : a ≠ b := fun z => hAB (by rw [← s3, ← s4, z])
            have hat : a ≠ top := fun z => e (by rw [← s3, z])
            have := (hw a b s1 s2 hne).2.2 hat s5
            have hg := g2 a s1 hat
            have := (hw a _ s1 hg.2.1 (fun z => hg.2.2.1 z.symm)).1
            omega
          · have := hM _ (rc.2.1 x hx)
            rw [Int.add_assoc]; exact this
      -- the choice
      have choose : ∀ r v : Nat, r + v = n → ∀ (υ : St) (x : Int), FR (fun c i _ => c = 95 ∧ i = 0) τ υ → (∀ u, u < v → u ≠ top → υ 95 0 u = (gN υ u : Nat) ∧ gN υ u < n ∧ gN υ u ≠ u ∧ Wm τ u (gN υ u) < 1000000000 ∧ ∀ x, x < n → x ≠ u → Wm τ u (gN υ u) ≤ Wm τ u x) → x = sm (fun u => if u = top then 0 else Wm τ u (gN υ u)) v → WP mX13_sumTo 44 [vR 14 0, vU, vI (n : Int), vI (top : Int), vI (acc + x), vI (v : Int), vU, vU] [] υ Q := by
        intro r
        have bds : ∀ (υ : St) (v : Nat), v ≤ n → (∀ u, u < v → u ≠ top → gN υ u < n ∧ gN υ u ≠ u ∧ Wm τ u (gN υ u) < 1000000000) → 0 ≤ sm (fun u => if u = top then 0 else Wm τ u (gN υ u)) v ∧ sm (fun u => if u = top then 0 else Wm τ u (gN υ u)) v ≤ v * 1000 := fun υ v hvn hu => sm_bd (by omega) (fun u huv => by
          show 0 ≤ (if u = top then 0 else Wm τ u (gN υ u)) ∧ (if u = top then 0 else Wm τ u (gN υ u)) ≤ 1000
          by_cases e : u = top
          · rw [if_pos e]; omega
          · rw [if_neg e]
            have q := hu u huv e
            have q2 := hw u _ (by omega) q.1 (fun z => q.2.1 z.symm)
            exact ⟨q2.1, q2.2.2 e q.2.2⟩)
        induction r with
        | zero =>
          intro v hv υ x g1 g2 hx
          have hvn : v = n := by omega
          subst hvn
          have hb := bds υ v (Nat.le_refl _) (fun u huv hne => ⟨(g2 u huv hne).2.1, (g2 u huv hne).2.2.1, (g2 u huv hne).2.2.2.1⟩)
          refine b_X13_sumTo_44 ⟨fun _ => ?_, fun z => by omega⟩
          rw [hx]
          exact behind υ g1 g2 hb
        | succ r ihr =>
          intro v hv υ x g1 g2 hx
          have hb := bds υ v (by omega) (fun u huv hne => ⟨(g2 u huv hne).2.1, (g2 u huv hne).2.2.1, (g2 u huv hne).2.2.2.1⟩)
          rw [← hx] at hb
          refine b_X13_sumTo_44 ⟨fun z => by omega, fun _ => ⟨fun hne => ?_, fun he => ⟨by unfold in32; omega, ihr (v + 1) (by omega) υ x g1 (fun u hu hut => ?_) ?_⟩⟩⟩
          · have hvt : v ≠ top := fun z => hne (by rw [z])
            have row : ∀ q u : Nat, q + u = n → ∀ b : Int, ((b = -1 ∧ ∀ y, y < u → y = v) ∨ ∃ c : Nat, b = c ∧ c < u ∧ c ≠ v ∧ ∀ y, y < u → y ≠ v → Wm τ v c ≤ Wm τ v y) → WP mX13_sumTo 65 [vR 14 0, vU, vI (n : Int), vI (top : Int), vI (acc + x), vI (v : Int), vI b, vI (u : Int)] [] υ Q := by
              intro q
              induction q with
              | zero =>
                intro u hu b hb'
                have hun : u = n := by omega
                subst hun
                rcases hb' with ⟨_, z⟩ | ⟨c, c1, c2, c3, c4⟩
                · exact absurd (z top ht).symm hvt
                · have hwc := hw v c (by omega) c2 (fun z => c3 z.symm)
                  refine b_X13_sumTo_65 ?_
                  rw [c1, Wm_eq (τ := υ) (a := v) (b := c) rfl rfl, eW υ g1, Int.toNat_natCast]
                  refine ⟨fun _ => ⟨fun z => by omega, fun _ => ⟨by unfold in32; omega, by unfold in32; omega, ⟨by omega, by omega⟩, fun hlt => ?_, fun hge => h2 υ (wk95 υ g1) (hNo (fun f ⟨dp, hf⟩ => ?_))⟩⟩, fun z => by omega⟩
                  · have hc1000 := hwc.2.2 hvt hlt
                    refine ⟨⟨by omega, by omega⟩, by unfold in32; omega, by unfold in32; omega, ⟨by omega, by omega⟩, by unfold in32; omega, by unfold in32; omega, ?_⟩
                    rw [Int.add_assoc]
                    have gu : ∀ y, y < v → gN (up υ 95 0 v (c : Int)) y = gN υ y := fun y hy => by unfold gN; rw [up_j (by omega)]
                    have gv : gN (up υ 95 0 v (c : Int)) v = c := by unfold gN; rw [up_s]; rfl
                    refine ihr (v + 1) (by omega) _ _ (g1.u ⟨rfl, rfl⟩) (fun y hy hyt => ?_) ?_
                    · by_cases e : y = v
                      · subst e
                        rw [gv, up_s]; exact ⟨rfl, c2, c3, hlt, c4⟩
                      · rw [gu y (by omega), up_j e]; exact g2 y (by omega) hyt
                    · rw [sm, if_neg hvt, gv, hx]
                      congr 1
                      exact sm_congr (fun y hy => by rw [gu y hy])
                  · have q := hf v (by omega) hvt
                    have := c4 (f v) q.1 q.2.1
                    have q3 : Wm τ v (f v) < 1000000000 := q.2.2.1
                    omega
              | succ q ihq =>
                intro u hu b hb'
                have nx : ∀ b' : Int, ((b' = -1 ∧ ∀ y, y < u + 1 → y = v) ∨ ∃ c : Nat, b' = c ∧ c < u + 1 ∧ c ≠ v ∧ ∀ y, y < u + 1 → y ≠ v → Wm τ v c ≤ Wm τ v y) → in32 ((u : Int) + 1) ∧ WP mX13_sumTo 65 [vR 14 0, vU, vI (n : Int), vI (top : Int), vI (acc + x), vI (v : Int), vI b', vI ((u : Int) + 1)] [] υ Q := fun b' h' => ⟨by unfold in32; omega, ihq (u + 1) (by omega) b' h'⟩
                refine b_X13_sumTo_65 ⟨fun z => by omega, fun _ => ⟨fun he => nx b ?_, fun hne2 => ⟨fun hb1 => nx (u : Int) ?_, fun hb1 => ?_⟩⟩⟩
                · rcases hb' with ⟨z1, z2⟩ | ⟨c, c1, c2, c3, c4⟩
                  · refine Or.inl ⟨z1, fun y hy => ?_⟩
                    by_cases e : y = u
                    · omega
                    · exact z2 y (by omega)
                  · exact Or.inr ⟨c, c1, by omega, c3, fun y hy hyv => c4 y (by omega) hyv⟩
                · rcases hb' with ⟨z1, z2⟩ | ⟨c, c1, c2, c3, c4⟩
                  · refine Or.inr ⟨u, rfl, by omega, by omega, fun y hy hyv => ?_⟩
                    by_cases e : y = u
                    · rw [e]; omega
                    · exact absurd (z2 y (by omega)) hyv
                  · omega
                · obtain ⟨c, c1, c2, c3, c4⟩ := hb'.resolve_left (fun z => hb1 z.1)
                  rw [c1, Wm_eq (τ := υ) (a := v) (b := c) rfl rfl, Wm_eq (τ := υ) (a := v) (b := u) rfl rfl, eW υ g1, eW υ g1]
                  refine ⟨by unfold in32; omega, by unfold in32; omega, ⟨by omega, by omega⟩, by unfold in32; omega, by unfold in32; omega, ⟨by omega, by omega⟩, fun hle => nx (c : Int) (Or.inr ⟨c, rfl, by omega, c3, fun y hy hyv => ?_⟩), fun hlt => nx (u : Int) (Or.inr ⟨u, rfl, by omega, by omega, fun y hy hyv => ?_⟩)⟩
                  · by_cases e : y = u
                    · rw [e]; exact hle
                    · exact c4 y (by omega) hyv
                  · by_cases e : y = u
                    · rw [e]; omega
                    · have := c4 y (by omega) hyv; omega
            exact row n 0 (by omega) (-1) (Or.inl ⟨rfl, fun y hy => by omega⟩)
          · by_cases e : u = v
            · omega
            · exact g2 u (by omega) hut
          · rw [sm, if_pos (by omega), hx]; omega
      have := choose n 0 (by omega) τ 0 FR.rf (fun u hu => by omega) rfl
      rw [Int.add_zero] at this
      exact this
  refine b_X13_sumTo_0 ?_
  rw [hN]
  have init : ∀ m x : Nat, m + x = 144 → ∀ τ : St, FR (fun c i _ => c = 94 ∧ i = 0) σ τ → (∀ y, y < x → τ 94 0 y = σ 93 0 y) → WP mX13_sumTo 13 [vR 14 0, vU, vI (N : Int), vI (root : Int), vI 0, vI (x : Int), vU, vU] [] τ Q := by
    intro m
    induction m with
    | zero =>
      intro x hx τ f1 hv
      have eW : ∀ a b, a < N → b < N → Wm τ a b = wH σ a b := fun a b ha hb => hv _ (by omega)
      refine b_X13_sumTo_13 ⟨fun _ => ?_, fun z => by omega⟩
      have adT : ∀ f, TR N root (fun a b => Wm τ a b < 1000000000) f ↔ TR N root (fun a b => wH σ a b < 1000000000) f := fun f => ⟨fun ⟨dp, hf⟩ => ⟨dp, fun v hv' hne => by
        have q := hf v hv' hne
        exact ⟨q.1, q.2.1, by show wH σ v (f v) < 1000000000; rw [← eW v (f v) hv' q.1]; exact q.2.2.1, q.2.2.2⟩⟩, fun ⟨dp, hf⟩ => ⟨dp, fun v hv' hne => by
        have q := hf v hv' hne
        exact ⟨q.1, q.2.1, by show Wm τ v (f v) < 1000000000; rw [eW v (f v) hv' q.1]; exact q.2.2.1, q.2.2.2⟩⟩⟩
      refine rounds (N + 1) N root 0 τ (by omega) hN12 hr ⟨by omega, by omega⟩ (f1.wk (fun c i j z => ⟨z.2, by omega⟩)) (fun a b ha hb hne => by rw [eW a b ha hb]; exact ⟨(hw0 a b ha hb hne).1, (hw0 a b ha hb hne).2.1, fun _ => (hw0 a b ha hb hne).2.2⟩) (fun x hx => ?_) (fun hno f hf => hno f ((adT f).mpr hf))
      rw [Int.zero_add]
      obtain ⟨⟨f, q1, q2⟩, q3⟩ := hx.cg (w' := wH σ) (fun a b ha hb _ => eW a b ha hb)
      exact ⟨⟨f, (adT f).mp q1, q2⟩, fun g hg => q3 g ((adT g).mpr hg)⟩
    | succ m ih =>
      intro x hx τ f1 hv
      refine b_X13_sumTo_13 ⟨fun z => by omega, fun _ => ⟨⟨by omega, by omega⟩, ⟨by omega, by omega⟩, by unfold in32; omega, ?_⟩⟩
      rw [Int.toNat_natCast]
      refine ih (x + 1) (by omega) _ (f1.u ⟨rfl, rfl⟩) (fun y hy => ?_)
      by_cases e : y = x
      · rw [e, up_s]; exact f1 93 0 x (fun z => by omega)
      · rw [up_j e]; exact hv y (by omega)
  exact init 144 0 (by omega) σ FR.rf (fun y hy => by omega)
end MSum
