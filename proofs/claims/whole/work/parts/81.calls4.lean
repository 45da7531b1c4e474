/-! ===== feed, comes ===== -/
theorem i2b_bd (x : Int) : -128 ≤ i2bI x ∧ i2bI x ≤ 127 := by
  unfold i2bI
  rw [Int8.toInt_toInt32]
  have h1 := Int8.le_toInt (Int32.ofInt x).toInt8
  have h2 := Int8.toInt_lt (Int32.ofInt x).toInt8
  omega
def bB (x t : Int) : Int := i2bI (i2bI (shr x t))
def wr (x : Int) (n : Nat) (f : Nat → Int) (k : Nat) : Int := if n ≤ k ∧ k < n + 4 then bB x (24 - 8 * ((k : Int) - n)) else f k
theorem wr_cg {x : Int} {n k : Nat} {f g : Nat → Int} (h : f k = g k ∧ -128 ≤ f k ∧ f k ≤ 127) : wr x n f k = wr x n g k ∧ -128 ≤ wr x n f k ∧ wr x n f k ≤ 127 := by
  unfold wr
  by_cases e : n ≤ k ∧ k < n + 4
  · rw [if_pos e, if_pos e]; exact ⟨rfl, i2b_bd _⟩
  · rw [if_neg e, if_neg e]; exact h
section Calls4
variable {σ τ : St} {Q : Res → St → Prop} {V : Vy}
theorem c_add {x : Int} {n : Nat} (h0 : σ 8 0 1 = n) (h1 : n ≤ 696) (h : ∀ τ, FR (fun c i j => i = 0 ∧ (c = 46 ∨ (c = 8 ∧ j = 1))) σ τ → τ 8 0 1 = ((n + 4 : Nat) : Int) → (∀ k, τ 46 0 k = wr x n (σ 46 0) k) → Q (.inl none) τ) : WP mX7_add 0 [vR 8 0, vI x, vU] [] σ Q := by
  refine b_X7_add_0 ?_
  have key : ∀ m y : Nat, m + y = 4 → ∀ τ, FR (fun c i j => i = 0 ∧ (c = 46 ∨ (c = 8 ∧ j = 1))) σ τ → τ 8 0 1 = ((n + y : Nat) : Int) → (∀ k, τ 46 0 k = if n ≤ k ∧ k < n + y then bB x (24 - 8 * ((k : Int) - n)) else σ 46 0 k) → WP mX7_add 3 [vR 8 0, vI x, vI (24 - 8 * (y : Int))] [] τ Q := by
    intro m
    induction m with
    | zero =>
      intro y hy τ f1 e1 e2
      have hy4 : y = 4 := by omega
      subst hy4
      exact b_X7_add_3 ⟨fun _ => h τ f1 e1 e2, fun z => by omega⟩
    | succ m ih =>
      intro y hy τ f1 e1 e2
      refine b_X7_add_3 ⟨fun z => by omega, fun _ => ⟨fun z => by omega, fun _ => ⟨by omega, by unfold in32; omega, by unfold in32; omega, ?_⟩⟩⟩
      rw [show (24 - 8 * (y : Int) + -8) = 24 - 8 * ((y + 1 : Nat) : Int) by omega]
      refine ih (y + 1) (by omega) _ ((f1.u ⟨rfl, by omega⟩).u ⟨rfl, by omega⟩) (by rw [up_s]; omega) (fun k => ?_)
      rw [up_c (by omega), show (τ 8 0 1).toNat = n + y by omega]
      by_cases e : k = n + y
      · rw [e, up_s, if_pos ⟨by omega, by omega⟩]
        unfold bB
        rw [show (24 - 8 * (((n + y : Nat) : Int) - n)) = 24 - 8 * (y : Int) by omega]
      · rw [up_j e, e2 k]
        by_cases q : n ≤ k ∧ k < n + y
        · rw [if_pos q, if_pos ⟨q.1, by omega⟩]
        · rw [if_neg q, if_neg (fun z => by omega)]
  have := key 4 0 (by omega) σ FR.rf (by rw [h0]; rfl) (fun k => by rw [if_neg (fun z => by omega)])
  exact this
theorem d_putFour {x : Int} {n : Nat} (h0 : σ 14 0 2 = n) (h1 : n ≤ 696) (h : ∀ τ, FR (fun c i j => i = 0 ∧ (c = 66 ∨ (c = 14 ∧ j = 2))) σ τ → τ 14 0 2 = ((n + 4 : Nat) : Int) → (∀ k, τ 66 0 k = wr x n (σ 66 0) k) → Q (.inl none) τ) : WP mX13_putFour 0 [vR 14 0, vI x, vU] [] σ Q := by
  refine b_X13_putFour_0 ?_
  have key : ∀ m y : Nat, m + y = 4 → ∀ τ, FR (fun c i j => i = 0 ∧ (c = 66 ∨ (c = 14 ∧ j = 2))) σ τ → τ 14 0 2 = ((n + y : Nat) : Int) → (∀ k, τ 66 0 k = if n ≤ k ∧ k < n + y then bB x (24 - 8 * ((k : Int) - n)) else σ 66 0 k) → WP mX13_putFour 3 [vR 14 0, vI x, vI (24 - 8 * (y : Int))] [] τ Q := by
    intro m
    induction m with
    | zero =>
      intro y hy τ f1 e1 e2
      have hy4 : y = 4 := by omega
      subst hy4
      exact b_X13_putFour_3 ⟨fun _ => h τ f1 e1 e2, fun z => by omega⟩
    | succ m ih =>
      intro y hy τ f1 e1 e2
      refine b_X13_putFour_3 ⟨fun z => by omega, fun _ => ⟨by omega, by unfold in32; omega, by unfold in32; omega, ?_⟩⟩
      rw [show (24 - 8 * (y : Int) + -8) = 24 - 8 * ((y + 1 : Nat) : Int) by omega]
      refine ih (y + 1) (by omega) _ ((f1.u ⟨rfl, by omega⟩).u ⟨rfl, by omega⟩) (by rw [up_s]; omega) (fun k => ?_)
      rw [up_c (by omega), show (τ 14 0 2).toNat = n + y by omega]
      by_cases e : k = n + y
      · rw [e, up_s, if_pos ⟨by omega, by omega⟩]
        unfold bB
        rw [show (24 - 8 * (((n + y : Nat) : Int) - n)) = 24 - 8 * (y : Int) by omega]
      · rw [up_j e, e2 k]
        by_cases q : n ≤ k ∧ k < n + y
        · rw [if_pos q, if_pos ⟨q.1, by omega⟩]
        · rw [if_neg q, if_neg (fun z => by omega)]
  have := key 4 0 (by omega) σ FR.rf (by rw [h0]; rfl) (fun k => by rw [if_neg (fun z => by omega)])
  exact this
theorem pr_feed {a b c d e : Int} (hI : INV V σ) : PRC mX11_feed mX13_feed [vR 12 0, vI a, vI b, vI c, vI d, vI e] [vR 14 0, vI a, vI b, vI c, vI d, vI e] σ := by
  obtain ⟨e1, e2, e3⟩ := hI.2.1
  obtain ⟨n, hn⟩ : ∃ n : Nat, σ 8 0 1 = n := ⟨(σ 8 0 1).toNat, by omega⟩
  by_cases hf : σ 8 0 1 ≤ 680
  · refine b_X11_feed_0 ⟨fun _ => ?_, fun z => by omega⟩
    refine c_add (n := n) hn (by omega) (fun τ1 f1 a1 b1 => b_X11_feed_24 (c_add (n := n + 4) a1 (by omega) (fun τ2 f2 a2 b2 => b_X11_feed_32 (c_add (n := n + 8) a2 (by omega) (fun τ3 f3 a3 b3 => b_X11_feed_40 (c_add (n := n + 12) a3 (by omega) (fun τ4 f4 a4 b4 => b_X11_feed_49 (c_add (n := n + 16) a4 (by omega) (fun τ5 f5 a5 b5 => b_X11_feed_58 ⟨_, rfl, ?_⟩)))))))))
    have F5 := (((f1.tr f2).tr f3).tr f4).tr f5
    have g2 : τ5 14 0 2 = n := by rw [F5 14 0 2 (fun z => by omega), ← e1]; exact hn
    have g66 : ∀ k, τ5 66 0 k = σ 66 0 k := fun k => F5 66 0 k (fun z => by omega)
    refine b_X13_feed_0 ⟨by unfold in32; omega, fun _ => ?_, fun z => by omega⟩
    refine d_putFour (n := n) g2 (by omega) (fun υ1 p1 q1 r1 => b_X13_feed_21 (d_putFour (n := n + 4) q1 (by omega) (fun υ2 p2 q2 r2 => b_X13_feed_26 (d_putFour (n := n + 8) q2 (by omega) (fun υ3 p3 q3 r3 => b_X13_feed_31 (d_putFour (n := n + 12) q3 (by omega) (fun υ4 p4 q4 r4 => b_X13_feed_37 (d_putFour (n := n + 16) q4 (by omega) (fun υ5 p5 q5 r5 => b_X13_feed_43 ⟨by rw [a5, q5], V, ?_⟩)))))))))
    have P5 := (((p1.tr p2).tr p3).tr p4).tr p5
    have g8 : υ5 8 0 1 = ((n + 20 : Nat) : Int) := by rw [P5 8 0 1 (fun z => by omega)]; exact a5
    have g46 : ∀ k, υ5 46 0 k = τ5 46 0 k := fun k => P5 46 0 k (fun z => by omega)
    refine hI.tp ((F5.wk (fun c i j z => by omega)).tr (P5.wk (fun c i j z => by omega))) ⟨by rw [g8, q5], by omega, fun k hk => ?_⟩
    rw [g46, b5, r5]
    refine wr_cg ?_
    rw [b4, r4]
    refine wr_cg ?_
    rw [b3, r3]
    refine wr_cg ?_
    rw [b2, r2]
    refine wr_cg ?_
    rw [b1, r1]
    refine wr_cg ?_
    rw [g66]
    exact e3 k hk
  · exact PRC.same (-3) hI (fun Q h => b_X11_feed_0 ⟨fun z => absurd z hf, fun _ => h⟩) (fun Q h => b_X13_feed_0 ⟨by unfold in32; omega, fun z => by omega, fun _ => h⟩)
/-! comes -/
theorem e_kk (hV : VOK V) {q t : Int} (h : E V q t) : t = q ∨ ∃ kk : Nat, (kk : Int) < pe V * ha V ∧ stV V q kk = t ∧ efree V q kk := by
  obtain ⟨p, hp, hk, x, h0, h1, h2, h3⟩ := h
  by_cases e : t = q
  · exact Or.inl e
  · obtain ⟨kk, k1, k2, k3⟩ := kk_of hV hp h0 h1
    refine Or.inr ⟨kk, k1, ?_, ?_⟩
    · unfold stV
      rw [k2, k3, if_neg (fun z => z.elim (fun z => z hk) (fun z => e (by rw [h2, z]))), h2]
    · unfold efree
      rw [k2, k3]; exact h3
theorem kk_e (hV : VOK V) {q kk : Int} (h0 : 0 ≤ kk) (h1 : kk < pe V * ha V) (hn : stV V q kk ≠ -1) (hf : efree V q kk) : E V q (stV V q kk) := by
  have hb := kk_bd hV h0 h1
  unfold stV at hn ⊢
  by_cases c : ke V (kk / ha V).toNat ≠ -1 ∨ wi V q (kk / ha V).toNat (kk % ha V) = q
  · rw [if_pos c] at hn; exact absurd rfl hn
  · rw [if_neg c]
    exact ⟨(kk / ha V).toNat, by omega, Classical.byContradiction (fun z => c (Or.inl z)), kk % ha V, hb.2.1, hb.2.2, rfl, hf⟩
def cmP (c i _j : Nat) : Prop := i = 0 ∧ (c = 81 ∨ c = 89)
def CI (V : Vy) (s k : Int) (σ τ : St) (ex : Int → Prop) (e : Nat) : Prop := (∀ x, isSt V x → mk τ x → Rch V s x) ∧ (∀ d : Nat, d < e → isSt V (τ 81 0 d) ∧ mk τ (τ 81 0 d)) ∧ (∀ x, isSt V x → mk τ x → (∃ d : Nat, d < e ∧ τ 81 0 d = x) ∨ ex x ∨ (ri σ x ≠ k ∧ ∀ t, E V x t → mk τ t)) ∧ e ≤ cnt (fun x => isSt V (x : Int) ∧ τ 89 0 x ≠ 0) 1024 ∧ mk τ s
theorem d_comes {s k : Int} (hV : VOK V) (hT : MT σ V) (hR : MRP σ V) (hS : MRS σ V) (hs : isSt V s) (h : ∀ τ, FR cmP σ τ → Q (.inl (some (vI (b2 (∃ t, isSt V t ∧ ri σ t = k ∧ Rch V s t))))) τ) : WP mX13_comes 21 [vR 14 0, vI s, vI k, vI 0, vU, vU, vU] [] σ Q := by
  have hpe := hV.pe
  have hha := hV.ha
  have hph := ph_bd hV
  have hcod := hV.cod
  have hsb := st_bd hV hs
  have eT : ∀ τ, FR cmP σ τ → MT τ V := fun τ f => hT.fr f (fun c j hc z => by unfold cmP at z; omega)
  have eR : ∀ τ, FR cmP σ τ → MRP τ V := fun τ f => hR.fr f (fun c j hc z => by unfold cmP at z; omega)
  have eri : ∀ τ, FR cmP σ τ → ∀ x, τ 83 0 x = σ 83 0 x := fun τ f x => f 83 0 x (fun z => by unfold cmP at z; omega)
  -- the search
  have key : ∀ (N e : Nat) (τ : St), 2 * (1024 - cnt (fun x => isSt V (x : Int) ∧ τ 89 0 x ≠ 0) 1024) + e < N → FR cmP σ τ → CI V s k σ τ (fun _ => False) e → WP mX13_comes 58 [vR 14 0, vU, vI k, vI (e : Int), vU, vU, vU] [] τ Q := by
    intro N
    induction N with
    | zero => intro e τ hN; omega
    | succ N ih =>
      intro e τ hN f1 hC
      obtain ⟨c1, c2, c3, c4, c5⟩ := hC
      have hcb := cnt_bd (fun x => isSt V (x : Int) ∧ τ 89 0 x ≠ 0) 1024
      by_cases e0 : e = 0
      · subst e0
        refine b_X13_comes_58 ⟨fun _ => ?_, fun z => by omega⟩
        have : b2 (∃ t, isSt V t ∧ ri σ t = k ∧ Rch V s t) = 0 := b2_f (fun ⟨t, t1, t2, t3⟩ => by
          have cl : ∀ x, isSt V x → mk τ x → ri σ x ≠ k ∧ ∀ t, E V x t → mk τ t := fun x hx hm => by
            rcases c3 x hx hm with ⟨d, d1, _⟩ | z | z
            · omega
            · exact absurd z id
            · exact z
          have := t3 (fun x => isSt V x ∧ mk τ x) ⟨hs, c5⟩ (fun a b ha hE => ⟨E.st hV ha.1 hE, (cl a ha.1 ha.2).2 b hE⟩)
          exact (cl t this.1 this.2).1 t2)
        have hh := h τ f1
        rw [this] at hh
        exact hh
      · obtain ⟨e', rfl⟩ : ∃ e', e = e' + 1 := ⟨e - 1, by omega⟩
        obtain ⟨q1, q2⟩ := c2 e' (by omega)
        have hqb := st_bd hV q1
        refine b_X13_comes_58 ?_
        rw [show ((e' + 1 : Nat) : Int) + (-1) = (e' : Int) by omega, Int.toNat_natCast, eri τ f1]
        refine ⟨fun z => by omega, fun _ => ⟨by unfold in32; omega, by omega, hqb, fun hne => ?_, fun he => ?_⟩⟩
        · -- its MOVES
          have inner : ∀ (m kk : Nat), ((m + kk : Nat) : Int) = pe V * ha V → ∀ (υ : St) (g : Nat), 2 * (1024 - cnt (fun x => isSt V (x : Int) ∧ υ 89 0 x ≠ 0) 1024) + g < N → FR cmP σ υ → mk υ (τ 81 0 e') → CI V s k σ υ (fun x => x = τ 81 0 e') g → (∀ j : Nat, j < kk → stV V (τ 81 0 e') j ≠ -1 → efree V (τ 81 0 e') j → mk υ (stV V (τ 81 0 e') j)) → WP mX13_comes 89 [vR 14 0, vU, vI k, vI (g : Int), vI (τ 81 0 e'), vI (kk : Int), vU] [] υ Q := by
            intro m
            induction m with
            | zero =>
              intro kk hk υ g hN' f2 hq hC2 hdn
              obtain ⟨d1, d2, d3, d4, d5⟩ := hC2
              have hT' := eT υ f2
              refine b_X13_comes_89 ?_
              rw [hT'.1, hT'.2.1]
              refine ⟨by unfold in32; omega, fun _ => ih g υ hN' f2 ⟨d1, d2, fun x hx hm => ?_, d4, d5⟩, fun z => by omega⟩
              rcases d3 x hx hm with z | z | z
              · exact Or.inl z
              · refine Or.inr (Or.inr ⟨by rw [z]; exact hne, fun t hE => ?_⟩)
                rw [z] at hE
                rcases e_kk hV hE with z2 | ⟨j, j1, j2, j3⟩
                · rw [z2]; exact hq
                · rw [← j2]
                  refine hdn j (by omega) ?_ j3
                  have := (st_bd hV (E.st hV q1 hE)).1
                  omega
              · exact Or.inr (Or.inr z)
            | succ m ihm =>
              intro kk hk υ g hN' f2 hq hC2 hdn
              obtain ⟨d1, d2, d3, d4, d5⟩ := hC2
              have hT' := eT υ f2
              have k0 : (0 : Int) ≤ kk := by omega
              have k1 : (kk : Int) < pe V * ha V := by omega
              have hkb := kk_bd hV k0 k1
              have hsd := stp_sides hV hT' q1 k0 k1
              have hfi := free_iff hV (eR υ f2) q1 k0 k1
              have hsk : (∀ j : Nat, j < kk + 1 → stV V (τ 81 0 e') j ≠ -1 → efree V (τ 81 0 e') j → mk υ (stV V (τ 81 0 e') j)) → in32 ((kk : Int) + 1) ∧ WP mX13_comes 89 [vR 14 0, vU, vI k, vI (g : Int), vI (τ 81 0 e'), vI ((kk : Int) + 1), vU] [] υ Q := fun hd => ⟨by unfold in32; omega, ihm (kk + 1) (by omega) υ g hN' f2 hq ⟨d1, d2, d3, d4, d5⟩ hd⟩
              refine b_X13_comes_89 ?_
              rw [stp_eq hV hT' k0 k1]
              rw [hT'.2.1] at hsd ⊢
              rw [hT'.1]
              have nx : ((stV V (τ 81 0 e') kk ≠ -1 → efree V (τ 81 0 e') kk → mk υ (stV V (τ 81 0 e') kk))) → (∀ j : Nat, j < kk + 1 → stV V (τ 81 0 e') j ≠ -1 → efree V (τ 81 0 e') j → mk υ (stV V (τ 81 0 e') j)) := fun hq' j hj => by
                by_cases e : j = kk
                · rw [e]; exact hq'
                · exact hdn j (by omega)
              refine ⟨by unfold in32; omega, fun z => by omega, fun _ => ⟨hsd, fun z => hsk (nx (fun z2 => absurd z z2)), fun hn => ⟨⟨k0, by omega, k0, by omega, hqb.1, hqb.2, hkb.1.1, by omega⟩, fun z => hsk (nx (fun _ z2 => absurd (hfi.mpr z2) z)), fun hfr => ?_⟩⟩⟩
              have hE := kk_e hV k0 k1 hn (hfi.mp hfr)
              have hst := E.st hV q1 hE
              have hb' := st_bd hV hst
              refine ⟨hb', fun hm0 => ?_, fun hm0 => hsk (nx (fun _ _ => hm0))⟩
              -- a new one
              generalize htt : stV V (τ 81 0 e') kk = t at *
              have hlt : cnt (fun x => isSt V (x : Int) ∧ υ 89 0 x ≠ 0) 1024 < 1024 := by
                have h1 := cnt_lt (P := fun x => isSt V (x : Int) ∧ υ 89 0 x ≠ 0) (Q := fun x => isSt V (x : Int)) (m := t.toNat) (n := 1024) (by omega) (fun k _ z => z.1) (by show isSt V ((t.toNat : Nat) : Int); rw [show ((t.toNat : Nat) : Int) = t by omega]; exact hst) (fun z => z.2 hm0)
                have h2 := cnt_bd (fun x => isSt V (x : Int)) 1024
                omega
              refine ⟨hb', by omega, by unfold in32; omega, by unfold in32; omega, ?_⟩
              rw [Int.toNat_natCast]
              have f3 : FR cmP σ (up (up υ 89 0 t.toNat 1) 81 0 g t) := (f2.u ⟨rfl, by omega⟩).u ⟨rfl, by omega⟩
              have e89 : ∀ x, (up (up υ 89 0 t.toNat 1) 81 0 g t) 89 0 x = if x = t.toNat then 1 else υ 89 0 x := fun x => by
                rw [up_c (by omega)]
                by_cases e : x = t.toNat
                · rw [if_pos e, e, up_s]
                · rw [if_neg e, up_j e]
              have e81 : ∀ x, (up (up υ 89 0 t.toNat 1) 81 0 g t) 81 0 x = if x = g then t else υ 81 0 x := fun x => by
                by_cases e : x = g
                · rw [if_pos e, e, up_s]
                · rw [if_neg e, up_j e, up_c (by omega)]
              generalize (up (up υ 89 0 t.toNat 1) 81 0 g t) = ω at *
              have emk : ∀ x, isSt V x → (mk ω x ↔ mk υ x ∨ x = t) := fun x hx => by
                have := st_bd hV hx
                unfold mk
                rw [e89]
                by_cases e : x.toNat = t.toNat
                · rw [if_pos e]; exact ⟨fun _ => Or.inr (by omega), fun _ => by omega⟩
                · rw [if_neg e]; exact ⟨fun z => Or.inl z, fun z => z.resolve_right (fun z => e (by rw [z]))⟩
              have ecnt : cnt (fun x => isSt V (x : Int) ∧ ω 89 0 x ≠ 0) 1024 = cnt (fun x => isSt V (x : Int) ∧ υ 89 0 x ≠ 0) 1024 + 1 := cnt_add (P := fun x => isSt V (x : Int) ∧ υ 89 0 x ≠ 0) (Q := fun x => isSt V (x : Int) ∧ ω 89 0 x ≠ 0) (m := t.toNat) (by omega) (fun x _ hx => by rw [e89, if_neg hx]) ⟨by rw [show ((t.toNat : Nat) : Int) = t by omega]; exact hst, by rw [e89, if_pos rfl]; omega⟩ (fun z => z.2 hm0)
              refine ihm (kk + 1) (by omega) ω (g + 1) (by omega) f3 ((emk _ q1).mpr (Or.inl hq)) ⟨fun x hx hm => ?_, fun d hd => ?_, fun x hx hm => ?_, by omega, (emk s hs).mpr (Or.inl d5)⟩ (fun j hj hn' hf' => ?_)
              · rcases (emk x hx).mp hm with z | z
                · exact d1 x hx z
                · rw [z]; exact (d1 _ q1 hq).tr (Rch.one hE)
              · rw [e81]
                by_cases e : d = g
                · rw [if_pos e]; exact ⟨hst, (emk t hst).mpr (Or.inr rfl)⟩
                · rw [if_neg e]
                  have := d2 d (by omega)
                  exact ⟨this.1, (emk _ this.1).mpr (Or.inl this.2)⟩
              · rcases (emk x hx).mp hm with z | z
                · rcases d3 x hx z with ⟨d, w1, w2⟩ | w | w
                  · exact Or.inl ⟨d, by omega, by rw [e81, if_neg (by omega)]; exact w2⟩
                  · exact Or.inr (Or.inl w)
                  · exact Or.inr (Or.inr ⟨w.1, fun t' hE' => (emk t' (E.st hV hx hE')).mpr (Or.inl (w.2 t' hE'))⟩)
                · exact Or.inl ⟨g, by omega, by rw [e81, if_pos rfl]; exact z.symm⟩
              · by_cases e : j = kk
                · have e2 : stV V (τ 81 0 e') (j : Int) = t := by rw [e]; exact htt
                  rw [e2]; exact (emk t hst).mpr (Or.inr rfl)
                · have := hdn j (by omega) hn' hf'
                  exact (emk _ (E.st hV q1 (kk_e hV (by omega) (by omega) hn' hf'))).mpr (Or.inl this)
          obtain ⟨hx, hxe⟩ : ∃ hx : Nat, (hx : Int) = pe V * ha V := ⟨(pe V * ha V).toNat, by omega⟩
          refine inner hx 0 (by omega) τ e' (by omega) f1 q2 ⟨c1, fun d hd => c2 d (by omega), fun x hx hm => ?_, by omega, c5⟩ (fun j hj => by omega)
          rcases c3 x hx hm with ⟨d, d1, d2⟩ | z | z
          · by_cases e : d = e'
            · exact Or.inr (Or.inl (by rw [← d2, e]))
            · exact Or.inl ⟨d, by omega, d2⟩
          · exact absurd z id
          · exact Or.inr (Or.inr z)
        · have : b2 (∃ t, isSt V t ∧ ri σ t = k ∧ Rch V s t) = 1 := b2_t ⟨_, q1, he, c1 _ q1 q2⟩
          have hh := h τ f1
          rw [this] at hh
          exact hh
  -- no marks
  have clear : ∀ m x : Nat, ((m + x : Nat) : Int) = cod V → ∀ τ, FR cmP σ τ → (∀ y, y < x → τ 89 0 y = 0) → WP mX13_comes 21 [vR 14 0, vI s, vI k, vI (x : Int), vU, vU, vU] [] τ Q := by
    intro m
    have e77 : ∀ τ, FR cmP σ τ → τ 77 0 (pe V).toNat = cod V := fun τ f => (eT τ f).2.2.2.2.2.2.2.1 (pe V).toNat (by omega)
    induction m with
    | zero =>
      intro x hx τ f1 h0
      have hT' := eT τ f1
      refine b_X13_comes_21 ?_
      rw [hT'.1, e77 τ f1]
      refine ⟨by omega, fun _ => ⟨hsb, ?_⟩, fun z => by omega⟩
      have f3 : FR cmP σ (up (up τ 89 0 s.toNat 1) 81 0 0 s) := (f1.u ⟨rfl, by omega⟩).u ⟨rfl, by omega⟩
      have e89 : ∀ x, (up (up τ 89 0 s.toNat 1) 81 0 0 s) 89 0 x = if x = s.toNat then 1 else τ 89 0 x := fun x => by
        rw [up_c (by omega)]
        by_cases e : x = s.toNat
        · rw [if_pos e, e, up_s]
        · rw [if_neg e, up_j e]
      have e81 : (up (up τ 89 0 s.toNat 1) 81 0 0 s) 81 0 0 = s := up_s _ _ _ _ _
      generalize (up (up τ 89 0 s.toNat 1) 81 0 0 s) = ω at *
      have emk : ∀ x, isSt V x → (mk ω x ↔ x = s) := fun y hy => by
        have hyb := hy.1
        unfold inC at hyb
        have := st_bd hV hy
        unfold mk
        rw [e89]
        by_cases e : y.toNat = s.toNat
        · rw [if_pos e]; exact ⟨fun _ => by omega, fun _ => by omega⟩
        · rw [if_neg e, h0 y.toNat (by omega)]; exact ⟨fun z => absurd rfl z, fun z => absurd (by rw [z]) e⟩
      refine key _ 1 ω (Nat.lt_succ_self _) f3 ⟨fun y hy hm => by rw [(emk y hy).mp hm]; exact Rch.rf, fun d hd => ?_, fun y hy hm => Or.inl ⟨0, by omega, by rw [e81]; exact ((emk y hy).mp hm).symm⟩, ?_, (emk s hs).mpr rfl⟩
      · rw [show d = 0 by omega, e81]; exact ⟨hs, (emk s hs).mpr rfl⟩
      · have := cnt_slt (P := fun x => isSt V (x : Int) ∧ ω 89 0 x ≠ 0) (a := s.toNat) (b := 1024) (by omega) ⟨by rw [show ((s.toNat : Nat) : Int) = s by omega]; exact hs, by rw [e89, if_pos rfl]; omega⟩
        omega
    | succ m ih =>
      intro x hx τ f1 h0
      have hT' := eT τ f1
      refine b_X13_comes_21 ?_
      rw [hT'.1, e77 τ f1, Int.toNat_natCast]
      refine ⟨by omega, fun z => by omega, fun _ => ⟨by omega, by unfold in32; omega, ih (x + 1) (by omega) _ (f1.u ⟨rfl, by omega⟩) (fun y hy => ?_)⟩⟩
      by_cases e : y = x
      · rw [e, up_s]
      · rw [up_j e]; exact h0 y (by omega)
  have hc0 := cod_pos hV
  exact clear (cod V).toNat 0 (by omega) σ FR.rf (fun y hy => by omega)
theorem pr_comes {s k : Int} (hI : INV V σ) : PRC mX11_comes mX13_comes [vR 12 0, vI s, vI k] [vR 14 0, vI s, vI k, vU, vU, vU, vU] σ := by
  have hV := hI.1.1
  have eqv : ∀ home n, HOME V home n → ((∃ t, isSt V t ∧ home t = k ∧ Rch V s t) ↔ ∃ home n t, HOME V home n ∧ isSt V t ∧ home t = k ∧ Rch V s t) := fun f n hf => ⟨fun ⟨t, z⟩ => ⟨f, n, t, hf, z⟩, fun ⟨g, m, t, hg, t1, t2, t3⟩ => ⟨t, t1, by rw [(hf.uniq hV hg).1 t t1]; exact t2, t3⟩⟩
  refine PRC.mk (R := RG (RR V k ∧ isSt V s) (fun x => x = b2 (∃ home n t, HOME V home n ∧ isSt V t ∧ home t = k ∧ Rch V s t))) (R' := RG (RR V k ∧ isSt V s) (fun x => x = b2 (∃ home n t, HOME V home n ∧ isSt V t ∧ home t = k ∧ Rch V s t))) hI (fun Q h => ?_) (fun τ Q h1 h2 h => ?_) (fun x y => RG.un Iff.rfl (fun x y _ a b => by rw [a, b]))
  · refine b_X11_comes_0 (c_readyI hV hI.1.2.1 hI.2.2.2.1 hI.2.2.2.2.1 (fun τ f1 t1 t2 t3 t4 t5 t6 t7 => ?_))
    show WP mX11_comes 7 [vR 12 0, vI s, vI k] [] τ Q
    refine b_X11_comes_7 (c_isState hV t1.1 t1.2.1 ?_)
    show WP mX11_comes 18 [vR 12 0, vI s, vI k] [vI (b2 (isSt V s))] τ Q
    refine b_X11_comes_18 ⟨fun z => h τ _ f1 t6 t7 (Or.inr ⟨fun w => b2_eq z w.2, rfl⟩), fun zs => ⟨fun z => ?_, fun z => h τ _ f1 t6 t7 (Or.inr ⟨fun w => z ((RR.iff hV t3.1).mp w.1), rfl⟩)⟩⟩
    have hs := b2_ne zs
    obtain ⟨s0, s1, s2⟩ := t3.1.2.2.2.1 k z.1 z.2
    obtain ⟨F, hD⟩ := dist_ex hV (Tg := fun s => hm τ 0 s = k) s1.1 s2
    refine c_aimAt (F := F) hV t1 t2 t3 z.1 z.2 t6.2.2.1 hD (fun υ u1 u2 u3 u4 => ?_)
    show WP mX11_comes 43 [vR 12 0, vI s, vU] [] υ Q
    have u1' : FR shP τ υ := u1.wk (fun c i j z => Or.inr z)
    have eK : υ 37 1 s.toNat = F s / 4096 := u3 s hs
    have hiff : F s / 4096 = 0 ↔ ∃ home n t, HOME V home n ∧ isSt V t ∧ home t = k ∧ Rch V s t := by
      rw [← eqv _ _ t3.1, hD.zero hV hs]
      exact ⟨fun ⟨t, a, b⟩ => ⟨t, b.st hV hs, a, b⟩, fun ⟨t, _, a, b⟩ => ⟨t, a, b⟩⟩
    have go : ∀ x, x = b2 (∃ home n t, HOME V home n ∧ isSt V t ∧ home t = k ∧ Rch V s t) → Q (.inl (some (vI x))) υ := fun x hx => h υ x (f1.tr (u1'.wk (fun c i j => shP_k))) (t6.am t5 u1' u4) (t7.fr u1' (by unfold shP amP; omega)) (Or.inl ⟨⟨(RR.iff hV t3.1).mpr z, hs⟩, hx⟩)
    refine b_X11_comes_43 ?_
    rw [eK]
    exact ⟨st_bd hV hs, fun w => go _ (by rw [b2_f (fun q => w (hiff.mpr q))]), fun w => go _ (by rw [b2_t (hiff.mp w)])⟩
  · refine b_X13_comes_0 (d_isRestI h1 h2 (fun υ f1 u1 u2 u3 u4 => ?_))
    show WP mX13_comes 5 [vR 14 0, vI s, vI k, vU, vU, vU, vU] [vI (b2 (0 ≤ k ∧ k < υ 14 0 51))] υ Q
    refine b_X13_comes_5 ⟨fun z => h υ _ f1 u4 (Or.inr ⟨fun w => b2_eq z ((RR.iff hV u3.1).mp w.1), rfl⟩), fun z => d_isState hV u1.2.2.1 ?_⟩
    show WP mX13_comes 13 [vR 14 0, vI s, vI k, vU, vU, vU, vU] [vI (b2 (isSt V s))] υ Q
    refine b_X13_comes_13 ⟨fun zs => ?_, fun zs => h υ _ f1 u4 (Or.inr ⟨fun w => b2_eq zs w.2, rfl⟩)⟩
    refine d_comes hV u1.2.2.1 u2 u3 (b2_ne zs) (fun ω o1 => ?_)
    refine h ω _ (f1.tr (o1.wk (fun c i j z => by unfold cmP at z; unfold kM; omega))) (u4.fr o1 (by unfold cmP; omega)) (Or.inl ⟨⟨(RR.iff hV u3.1).mpr (b2_ne z), b2_ne zs⟩, ?_⟩)
    exact b2_congr (eqv _ _ u3.1)
end Calls4
