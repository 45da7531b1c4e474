/-! ===== bound ===== -/
def bbP (c i _j : Nat) : Prop := (i = 1 ∧ (c = 2 ∨ c = 4 ∨ c = 5 ∨ c = 10 ∨ (22 ≤ c ∧ c ≤ 36) ∨ (54 ≤ c ∧ c ≤ 61))) ∨ (i = 0 ∧ (c = 6 ∨ c = 37 ∨ c = 39 ∨ (48 ≤ c ∧ c ≤ 53)))
theorem bbP_k {c i j : Nat} (z : bbP c i j) : kC c i j := by unfold bbP at z; unfold kC; omega
theorem waP_b {c i j : Nat} (z : waP c i j) : bbP c i j := by unfold waP at z; unfold bbP; omega
section Bound
variable {σ : St} {Q : Res → St → Prop} {V : Vy} {m h : Int}
theorem bind_ke {p : Nat} : ke (bindV V m h) p = if tbit m p = true then h else ke V p := rfl
theorem vok_bind (hV : VOK V) (hh : 0 ≤ h ∧ h < ha V) : VOK (bindV V m h) := ⟨hV.1, hV.2.1, hV.2.2.1, hV.2.2.2.1, hV.2.2.2.2.1, hV.2.2.2.2.2.1, hV.2.2.2.2.2.2.1, hV.2.2.2.2.2.2.2.1, fun p hp => by
  rw [bind_ke]
  by_cases e : tbit m p = true
  · rw [if_pos e]; exact Or.inr hh
  · rw [if_neg e]; exact hV.ke p hp⟩
theorem BND.un {x y : Int} (a : BND V h x) (b : BND V h y) : x = y := by
  obtain ⟨f, f1, f2⟩ := a
  obtain ⟨g, g1, g2⟩ := b
  have e := f1.un g1
  subst e
  rcases f2 with ⟨p1, p2⟩ | ⟨p1, p2, p3⟩ <;> rcases g2 with ⟨q1, q2⟩ | ⟨q1, q2, q3⟩
  · omega
  · exact absurd q2 (p2 y q1)
  · exact absurd p2 (q2 x p1)
  · have r1 : ¬ (bcnt x < bcnt y ∨ (bcnt x = bcnt y ∧ x < y)) := fun z => q3 x p1 z p2
    have r2 : ¬ (bcnt y < bcnt x ∨ (bcnt y = bcnt x ∧ y < x)) := fun z => p3 y q1 z q2
    omega
theorem c_bind (hV : VOK V) (hA : VA σ 0 V) (hh : 0 ≤ h ∧ h < ha V) (hm : sub m (σ 10 0 9)) (hk : ∀ τ, FR bbP σ τ → VA τ 1 (bindV V m h) → REP τ 1 (bindV V m h) → τ 2 1 4 ≠ 0 → τ 2 1 5 = 0 → τ 2 1 6 = 0 → Q (.inl none) τ) : WP mX11_bindInTrial 0 [vR 12 0, vI m, vI h, vU, vU] [] σ Q := by
  have hpe := hV.pe
  have hU : VOK (bindV V m h) := vok_bind hV hh
  have hfr := hA.2.2.1
  refine b_X11_bindInTrial_0 (c_copyFrom (by omega) hV hA.1 (fun τ1 f1 a1 _ => ?_))
  show WP mX11_bindInTrial 19 [vR 12 0, vI m, vI h, vR 10 1, vU] [] τ1 Q
  refine b_X11_bindInTrial_19 ?_
  have key : ∀ r p : Nat, ((r + p : Nat) : Int) = pe V → ∀ τ, FR (fun c i _ => c = 57 ∧ i = 1) τ1 τ → (∀ q, q < 10 → τ 57 1 q = if q < p ∧ tbit m q = true then h else ke V q) → WP mX11_bindInTrial 22 [vR 12 0, vI m, vI h, vR 10 1, vI (p : Int)] [] τ Q := by
    intro r
    have e100 : ∀ τ, FR (fun c i _ => c = 57 ∧ i = 1) τ1 τ → τ 10 1 0 = pe V := fun τ f => by rw [f 10 1 0 (fun z => by omega)]; exact a1.1.pe
    induction r with
    | zero =>
      intro p hp τ f2 h57
      refine b_X11_bindInTrial_22 ⟨fun _ => ?_, fun z => by rw [e100 τ f2] at z; omega⟩
      have g : ∀ c k, c ≠ 57 → τ c 1 k = τ1 c 1 k := fun c k hc => f2 c 1 k (fun z => hc z.1)
      have hT : VT τ 1 (bindV V m h) := ⟨by rw [g 10 0 (by omega)]; exact a1.1.pe, by rw [g 10 1 (by omega)]; exact a1.1.ha, by rw [g 10 2 (by omega)]; exact a1.1.an, by rw [g 10 3 (by omega)]; exact a1.1.sy, fun j hj => by rw [g 54 j (by omega)]; exact a1.1.ge j hj, fun j hj => by rw [g 55 j (by omega)]; exact a1.1.sl j hj, fun j hj => by rw [g 56 j (by omega)]; exact a1.1.me j hj, fun j hj => by
        rw [h57 j hj, bind_ke]
        by_cases e : tbit m j = true
        · have := ((hfr.2.1 j).mp (hm.2 j e)).1
          rw [if_pos ⟨by omega, e⟩, if_pos e]
        · rw [if_neg (fun z => e z.2), if_neg e]⟩
      refine c_settle hU hT (fun τ3 f3 a3 => ?_)
      show WP mX11_bindInTrial 58 [vR 12 0, vU, vU, vU, vU] [] τ3 Q
      refine b_X11_bindInTrial_58 (b_X1_change_0 ?_)
      show WP mX11_bindInTrial 65 [vR 12 0, vU, vU, vU, vU] [] _ Q
      have G2 : FR (fun c i _ => i = 1 ∧ c = 2) τ3 (up (up (up τ3 2 1 4 0) 2 1 5 0) 2 1 6 0) := ((FR.rf.u (by omega)).u (by omega)).u (by omega)
      have e4 : (up (up (up τ3 2 1 4 0) 2 1 5 0) 2 1 6 0) 2 1 4 = 0 := by rw [up_j (by omega), up_j (by omega), up_s]
      have e5 : (up (up (up τ3 2 1 4 0) 2 1 5 0) 2 1 6 0) 2 1 5 = 0 := by rw [up_j (by omega), up_s]
      have e6 : (up (up (up τ3 2 1 4 0) 2 1 5 0) 2 1 6 0) 2 1 6 = 0 := up_s _ _ _ _ _
      generalize (up (up (up τ3 2 1 4 0) 2 1 5 0) 2 1 6 0) = τ4 at *
      have a4 : VA τ4 1 (bindV V m h) := a3.fr G2 (fun c k hc z => by omega)
      refine b_X11_bindInTrial_65 (c_replyL hU a4 ⟨fun z => absurd e4 z, fun z => absurd e5 z⟩ (fun τ5 b g1 _ s5 s4 r1 _ _ => ?_))
      refine b_X11_bindInTrial_72 (hk τ5 ?_ (a4.fr g1 (fun c k hc z => by unfold rdP at z; omega)) r1 s4 (by rw [s5]; exact e5) (by rw [g1 2 1 6 (fun z => by unfold rdP at z; omega)]; exact e6))
      exact (((((f1.wk (fun c i j z => by unfold cpP at z; unfold bbP; omega)).tr (f2.wk (fun c i j z => by unfold bbP; omega))).tr (f3.wk (fun c i j z => by unfold zP at z; unfold bbP; omega))).tr (G2.wk (fun c i j z => by unfold bbP; omega))).tr (g1.wk (fun c i j z => by unfold rdP at z; unfold bbP; omega)))
    | succ r ih =>
      intro p hp τ f2 h57
      refine b_X11_bindInTrial_22 ?_
      rw [e100 τ f2, band_eq0 hm.1.1 hm.1.2 (by omega) (by omega), band_ne hm.1.1 hm.1.2 (by omega) (by omega), Int.toNat_natCast]
      refine ⟨fun z => by omega, fun _ => ⟨fun z => ⟨by unfold in32; omega, ih (p + 1) (by omega) τ f2 (fun q hq => ?_)⟩, fun z => ⟨by omega, by unfold in32; omega, ih (p + 1) (by omega) _ (f2.u ⟨rfl, rfl⟩) (fun q hq => ?_)⟩⟩⟩
      · rw [h57 q hq]
        by_cases e : q < p ∧ tbit m q = true
        · rw [if_pos e, if_pos ⟨by omega, e.2⟩]
        · rw [if_neg e, if_neg (fun w => ?_)]
          by_cases e2 : q = p
          · rw [e2] at w; exact z w.2
          · exact e ⟨by omega, w.2⟩
      · by_cases e2 : q = p
        · rw [e2, up_s, if_pos ⟨by omega, z⟩]
        · rw [up_j e2, h57 q hq]
          by_cases e : q < p ∧ tbit m q = true
          · rw [if_pos e, if_pos ⟨by omega, e.2⟩]
          · rw [if_neg e, if_neg (fun w => e ⟨by omega, w.2⟩)]
  exact key (pe V).toNat 0 (by omega) τ1 FR.rf (fun q hq => by rw [if_neg (fun z => by omega)]; exact a1.1.ke q hq)
theorem pr_bound (hI : INV V σ) : PRC mX11_bound mX13_bound [vR 12 0, vI h, vU, vU, vU] [vR 14 0, vI h, vU, vU, vU, vU, vU] σ := by
  have hV := hI.1.1
  have hpe := hV.pe
  have hha := hV.ha
  have e2p : ((2 : Int) ^ (pe V).toNat) = ((2 ^ (pe V).toNat : Nat) : Int) := by push_cast; rfl
  have h2p : 2 ^ (pe V).toNat ≤ 2 ^ 10 := Nat.pow_le_pow_right (by omega) (by omega)
  refine PRC.mk (R := RG (0 ≤ h ∧ h < ha V) (fun x => (6 < pe V ∧ x = -3) ∨ (pe V ≤ 6 ∧ BND V h x))) (R' := RG (0 ≤ h ∧ h < ha V) (fun x => (6 < pe V ∧ x = -3) ∨ (pe V ≤ 6 ∧ BND V h x))) hI (fun Q hq => ?_) (fun τ Q h1 h2 hq => ?_) (fun x y => RG.un Iff.rfl (fun x y _ a b => ?_))
  · have hA := hI.1.2.1
    have hC := hI.2.2.2.2.1
    have hfr : frN V (σ 10 0 9) := ⟨hA.2.2.1.1, hA.2.2.1.2.1⟩
    have go : ∀ x, RG (0 ≤ h ∧ h < ha V) (fun x => (6 < pe V ∧ x = -3) ∨ (pe V ≤ 6 ∧ BND V h x)) x → Q (.inl (some (vI x))) σ := fun x hx => hq σ x FR.rf hI.2.2.2.1 hC hx
    refine b_X11_bound_0 ?_
    rw [hA.1.ha, hA.1.pe]
    refine ⟨fun zh => ⟨fun z6 => ⟨by omega, fun z9 => ?_, fun z9 => ⟨by omega, ?_⟩⟩, fun z6 => go _ (Or.inl ⟨zh, Or.inl ⟨z6, rfl⟩⟩)⟩, fun z => go _ (Or.inr ⟨z, rfl⟩)⟩
    · have key : ∀ r y : Nat, r + y = 2 ^ (pe V).toNat → ∀ (τ : St) (x : Int), FR bbP σ τ → ((x = -1 ∧ ∀ m, sub m (σ 10 0 9) → m < y → ¬ WON (bindV V m h) (σ 10 0 9) h) ∨ (x < y ∧ sub x (σ 10 0 9) ∧ WON (bindV V x h) (σ 10 0 9) h ∧ ∀ m, sub m (σ 10 0 9) → m < y → WON (bindV V m h) (σ 10 0 9) h → bcnt x ≤ bcnt m ∧ (bcnt x = bcnt m → x ≤ m))) → WP mX11_bound 57 [vR 12 0, vI h, vI x, vI (y : Int), vU] [] τ Q := by
        intro r
        have e100 : ∀ τ, FR bbP σ τ → τ 10 0 0 = pe V := fun τ f => by rw [f 10 0 0 (fun z => by unfold bbP at z; omega)]; exact hA.1.pe
        have e109 : ∀ τ, FR bbP σ τ → τ 10 0 9 = σ 10 0 9 := fun τ f => f 10 0 9 (fun z => by unfold bbP at z; omega)
        induction r with
        | zero =>
          intro y hy τ x f1 hx
          refine b_X11_bound_57 ?_
          rw [e100 τ f1, shl1 (by omega) (by omega), e2p]
          have hB : BND V h x := by
            refine ⟨σ 10 0 9, hfr, ?_⟩
            have lt : ∀ m, sub m (σ 10 0 9) → m < y := fun m hm => by have := sub_lt hV hfr hm; rw [e2p] at this; omega
            rcases hx with ⟨a, b⟩ | ⟨_, a, b, c⟩
            · exact Or.inl ⟨a, fun m hm => b m hm (lt m hm)⟩
            · exact Or.inr ⟨a, b, fun m hm z w => by have := c m hm (lt m hm) w; omega⟩
          have g : FR (fun c i j => c = 64 ∧ i = 0) τ (up τ 64 0 h.toNat x) := FR.rf.u ⟨rfl, rfl⟩
          have c1 := hC.fr f1 (by unfold bbP; omega)
          refine ⟨fun _ => ⟨by omega, hq _ x ((f1.wk (fun c i j => bbP_k)).u (by unfold kC; omega)) ((hI.2.2.2.1.fr f1 (by unfold bbP; omega)).fr g (by omega)) ⟨by rw [up_c (by omega)]; exact c1.1, by rw [up_c (by omega)]; exact c1.2.1, fun q hq' => ⟨?_, by rw [up_c (by omega)]; exact (c1.2.2 q hq').2⟩⟩ (Or.inl ⟨zh, Or.inr ⟨z6, hB⟩⟩)⟩, fun z => by omega⟩
          by_cases e : q = h.toNat
          · rw [e, up_s, show ((h.toNat : Nat) : Int) = h by omega]; exact Or.inr hB
          · rw [up_j e]; exact (c1.2.2 q hq').1
        | succ r ih =>
          intro y hy τ x f1 hx
          have hA' : VA τ 0 V := hA.fr f1 (fun c k hc z => by unfold bbP at z; omega)
          -- not better
          have sk : ∀ τ', FR bbP σ τ' → (sub (y : Int) (σ 10 0 9) → WON (bindV V y h) (σ 10 0 9) h → x ≠ -1 ∧ bcnt x ≤ bcnt y) → in32 ((y : Int) + 1) ∧ WP mX11_bound 57 [vR 12 0, vI h, vI x, vI ((y : Int) + 1), vU] [] τ' Q := fun τ' f' hno => by
            refine ⟨by unfold in32; omega, ih (y + 1) (by omega) τ' x f' ?_⟩
            rcases hx with ⟨a, b⟩ | ⟨a0, a, b, c⟩
            · refine Or.inl ⟨a, fun m hm hlt w => ?_⟩
              by_cases e : m = y
              · rw [e] at hm w
                exact (hno hm w).1 a
              · exact b m hm (by push_cast at hlt; omega) w
            · refine Or.inr ⟨by push_cast; omega, a, b, fun m hm hlt w => ?_⟩
              by_cases e : m = y
              · rw [e] at hm w ⊢
                exact ⟨(hno hm w).2, fun _ => by omega⟩
              · exact c m hm (by push_cast at hlt; omega) w
          -- fewer
          have few : (x = -1 ∨ bcnt y < bcnt x) → WP mX11_bound 94 [vR 12 0, vI h, vI x, vI (y : Int), vU] [vI 1] τ Q := fun hf => by
            refine b_X11_bound_94 ⟨fun z => by omega, fun _ => ?_⟩
            rw [e109 τ f1, Ne, sub_iff (by omega) (by omega) hfr.1.1 hfr.1.2]
            refine ⟨fun q => sk τ f1 (fun q2 => absurd q2 q), fun hsub => c_bind hV hA' zh (by rw [e109 τ f1]; exact hsub) (fun υ u1 u2 u3 u4 u5 u6 => ?_)⟩
            show WP mX11_bound 124 [vR 12 0, vI h, vI x, vI (y : Int), vU] [] υ Q
            have F2 : FR bbP σ υ := f1.tr u1
            refine b_X11_bound_124 (c_winsAlone (vok_bind hV zh) u2 u3 u4 u5 u6 (by rw [e109 υ F2]; exact hfr.1) zh (fun p hp => ?_) (fun p hp hb => ?_) (fun ω o1 _ => ?_))
            · rw [e109 υ F2, hfr.2 p, bind_ke]
              by_cases e : tbit (y : Int) p = true
              · exact Or.inl ((hfr.2 p).mp (hsub.2 p e))
              · rw [if_neg e]
                by_cases e2 : ke V p = -1
                · exact Or.inl ⟨hp, e2⟩
                · exact Or.inr e2
            · rw [e109 υ F2] at hb
              rw [bind_ke]
              by_cases e : tbit (y : Int) p = true
              · rw [if_pos e]; exact Or.inr rfl
              · rw [if_neg e]; exact Or.inl ((hfr.2 p).mp hb).2
            · have F3 : FR bbP σ ω := F2.tr (o1.wk (fun c i j => waP_b))
              rw [e109 υ F2]
              show WP mX11_bound 129 [vR 12 0, vI h, vI x, vI (y : Int), vU] [vI (b2 (WON (bindV V y h) (σ 10 0 9) h))] ω Q
              refine b_X11_bound_129 ⟨fun z => sk ω F3 (fun _ w => absurd w (b2_eq z)), fun z => ⟨by unfold in32; omega, ih (y + 1) (by omega) ω y F3 (Or.inr ⟨by push_cast; omega, hsub, b2_ne z, fun m hm hlt w => ?_⟩)⟩⟩
              by_cases e : m = y
              · rw [e]; exact ⟨by omega, fun _ => by omega⟩
              · rcases hx with ⟨a, b⟩ | ⟨a0, a, b, c⟩
                · exact absurd w (b m hm (by push_cast at hlt; omega))
                · have := c m hm (by push_cast at hlt; omega) w
                  have hne : x ≠ -1 := by have := a.1.1; omega
                  have := hf.resolve_left hne
                  exact ⟨by omega, fun _ => by omega⟩
          refine b_X11_bound_57 ?_
          rw [e100 τ f1, shl1 (by omega) (by omega), e2p]
          refine ⟨fun z => by omega, fun _ => ⟨fun z => b_X11_bound_89 (few (Or.inl z)), fun z => ?_⟩⟩
          obtain ⟨a0, a, b, c⟩ := hx.resolve_left (fun q => z q.1)
          refine ⟨by omega, a.1, fun z2 => b_X11_bound_94 ⟨fun _ => sk τ f1 (fun _ _ => ⟨z, z2⟩), fun q => absurd rfl q⟩, fun z2 => b_X11_bound_89 (few (Or.inr z2))⟩
      exact key (2 ^ (pe V).toNat) 0 (by omega) σ (-1) FR.rf (Or.inl ⟨rfl, fun m hm hlt => by have := hm.1.1; omega⟩)
    · have := (hC.2.2 h.toNat (by omega)).1.resolve_left z9
      rw [show ((h.toNat : Nat) : Int) = h by omega] at this
      exact go _ (Or.inl ⟨zh, Or.inr ⟨z6, this⟩⟩)
  · have hT0 := h1.2.2.1
    have go0 : ∀ x, RG (0 ≤ h ∧ h < ha V) (fun x => (6 < pe V ∧ x = -3) ∨ (pe V ≤ 6 ∧ BND V h x)) x → Q (.inl (some (vI x))) τ := fun x hx => hq τ x FR.rf h2 hx
    refine b_X13_bound_0 ?_
    rw [hT0.2.1, hT0.1]
    refine ⟨by unfold in64; omega, fun zh => ⟨fun z6 => ?_, fun z6 => go0 _ (Or.inl ⟨⟨zh.1, by omega⟩, Or.inl ⟨z6, rfl⟩⟩)⟩, fun z => go0 _ (Or.inr ⟨fun q => z ⟨q.1, by omega⟩, rfl⟩)⟩
    have zh' : 0 ≤ h ∧ h < ha V := ⟨zh.1, by omega⟩
    refine d_freeSet hV hT0 (fun fr hfr => ?_)
    show WP mX13_bound 27 [vR 14 0, vI h, vU, vU, vU, vU, vU] [vI fr] τ Q
    refine b_X13_bound_27 ?_
    have hbf := bcnt_bd fr
    -- keepers may have changed
    have frk : ∀ υ, FR (fun c i j => kM c i j ∨ (c = 71 ∧ i = 0 ∧ j < 10)) τ υ → (∀ q, q < 10 → υ 71 0 q = ke V q) → FR kM τ υ := fun υ f h71 c i j hn => by
      by_cases e : c = 71 ∧ i = 0 ∧ j < 10
      · rw [e.1, e.2.1, h71 j e.2.2, hT0.2.2.2.2.2.2.1 j e.2.2]
      · exact f c i j (fun z => z.elim hn e)
    have fin : ∀ υ x, FR (fun c i j => kM c i j ∨ (c = 71 ∧ i = 0 ∧ j < 10)) τ υ → (∀ q, q < 10 → υ 71 0 q = ke V q) → BND V h x → Q (.inl (some (vI x))) (up υ 14 0 37 0) := fun υ x f h71 hB => hq _ x ((frk υ f h71).u (by unfold kM; omega)) (fun z => absurd (up_s _ _ _ _ _) z) (Or.inl ⟨zh', Or.inr ⟨z6, hB⟩⟩)
    have mtU : ∀ υ m, FR (fun c i j => kM c i j ∨ (c = 71 ∧ i = 0 ∧ j < 10)) τ υ → (∀ q, q < 10 → υ 71 0 q = if tbit m q = true then h else ke V q) → MT υ (bindV V m h) := fun υ m f h71 => by
      have g : ∀ c j, (c = 14 ∧ (j = 10 ∨ j = 11 ∨ j = 17 ∨ j = 35 ∨ j = 36)) ∨ c = 67 ∨ c = 69 ∨ c = 73 ∨ c = 77 → υ c 0 j = τ c 0 j := fun c j hc => f c 0 j (fun z => by unfold kM at z; omega)
      obtain ⟨q1, q2, q3, q4, q5, q6, q7, q8, q9⟩ := hT0
      refine ⟨by rw [g 14 10 (by omega)]; exact q1, by rw [g 14 11 (by omega)]; exact q2, by rw [g 14 17 (by omega)]; exact q3, fun x j hx hj => ?_, fun j hj => by rw [g 73 j (by omega)]; exact q5 j hj, fun j hj => by rw [g 69 j (by omega)]; exact q6 j hj, fun j hj => by rw [h71 j hj]; rfl, fun p hp => by rw [g 77 p (by omega)]; exact q8 p hp, by rw [g 14 36 (by omega)]; exact q9⟩
      rw [g 67 _ (by omega), g 14 35 (by omega), g 14 36 (by omega)]
      exact q4 x j hx hj
    have e10 : ∀ υ, FR (fun c i j => kM c i j ∨ (c = 71 ∧ i = 0 ∧ j < 10)) τ υ → υ 14 0 10 = pe V ∧ υ 14 0 12 = an V := fun υ f => ⟨by rw [f 14 0 10 (fun z => by unfold kM at z; omega)]; exact hT0.1, by rw [f 14 0 12 (fun z => by unfold kM at z; omega)]; exact h1.2.2.2.1⟩
    have outer : ∀ r y : Nat, ((r + y : Nat) : Int) = bcnt fr + 1 → (∀ m, sub m fr → WON (bindV V m h) fr h → (y : Int) ≤ bcnt m) → ∀ υ, FR (fun c i j => kM c i j ∨ (c = 71 ∧ i = 0 ∧ j < 10)) τ υ → (∀ q, q < 10 → υ 71 0 q = ke V q) → WP mX13_bound 33 [vR 14 0, vI h, vI fr, vI (-1), vI (y : Int), vU, vU] [] υ Q := by
      intro r
      -- found: out
      have out : ∀ (υ : St) (x : Int) (y : Nat), y ≤ 11 → x ≠ -1 → BND V h x → FR (fun c i j => kM c i j ∨ (c = 71 ∧ i = 0 ∧ j < 10)) τ υ → (∀ q, q < 10 → υ 71 0 q = ke V q) → WP mX13_bound 33 [vR 14 0, vI h, vI fr, vI x, vI (y : Int), vU, vU] [] υ Q := fun υ x y hy hx hB f h71 => by
        refine b_X13_bound_33 (d_bits hfr.1.1 hfr.1.2 ?_)
        show WP mX13_bound 39 [vR 14 0, vI h, vI fr, vI x, vI (y : Int), vU, vU] [vI (bcnt fr), vI (y : Int)] υ Q
        exact b_X13_bound_39 ⟨fun _ => fin υ x f h71 hB, fun _ => ⟨fun _ => fin υ x f h71 hB, fun z => absurd z hx⟩⟩
      induction r with
      | zero =>
        intro y hy hm υ f h71
        refine b_X13_bound_33 (d_bits hfr.1.1 hfr.1.2 ?_)
        show WP mX13_bound 39 [vR 14 0, vI h, vI fr, vI (-1), vI (y : Int), vU, vU] [vI (bcnt fr), vI (y : Int)] υ Q
        refine b_X13_bound_39 ⟨fun _ => fin υ _ f h71 ⟨fr, hfr, Or.inl ⟨rfl, fun m hm' w => ?_⟩⟩, fun z => by omega⟩
        have := hm m hm' w
        have := bcnt_le hm'
        omega
      | succ r ih =>
        intro y hy hm υ f h71
        refine b_X13_bound_33 (d_bits hfr.1.1 hfr.1.2 ?_)
        show WP mX13_bound 39 [vR 14 0, vI h, vI fr, vI (-1), vI (y : Int), vU, vU] [vI (bcnt fr), vI (y : Int)] υ Q
        refine b_X13_bound_39 ⟨fun z => by omega, fun _ => ⟨fun z => absurd rfl z, fun _ => ?_⟩⟩
        have inner : ∀ r' x : Nat, r' + x = 2 ^ (pe V).toNat → (∀ m, sub m fr → WON (bindV V m h) fr h → bcnt m = (y : Int) → (x : Int) ≤ m) → ∀ υ, FR (fun c i j => kM c i j ∨ (c = 71 ∧ i = 0 ∧ j < 10)) τ υ → (∀ q, q < 10 → υ 71 0 q = ke V q) → WP mX13_bound 50 [vR 14 0, vI h, vI fr, vI (-1), vI (y : Int), vI (x : Int), vU] [] υ Q := by
          intro r'
          induction r' with
          | zero =>
            intro x hx hm2 υ f h71
            refine b_X13_bound_50 ?_
            rw [(e10 υ f).1, shl1 (by omega) (by omega), e2p]
            refine ⟨fun _ => ⟨by unfold in32; omega, ih (y + 1) (by omega) (fun m m1 m2 => ?_) υ f h71⟩, fun z => by omega⟩
            have a1 := hm m m1 m2
            have a2 := sub_lt hV hfr m1
            rw [e2p] at a2
            by_cases e : bcnt m = y
            · have := hm2 m m1 m2 e
              omega
            · push_cast; omega
          | succ r' ihr =>
            intro x hx hm2 υ f h71
            have nx : ∀ υ', FR (fun c i j => kM c i j ∨ (c = 71 ∧ i = 0 ∧ j < 10)) τ υ' → (∀ q, q < 10 → υ' 71 0 q = ke V q) → (sub (x : Int) fr → bcnt (x : Int) = y → ¬ WON (bindV V x h) fr h) → in32 ((x : Int) + 1) ∧ WP mX13_bound 50 [vR 14 0, vI h, vI fr, vI (-1), vI (y : Int), vI ((x : Int) + 1), vU] [] υ' Q := fun υ' f' h71' hno => by
              refine ⟨by unfold in32; omega, ihr (x + 1) (by omega) (fun m m1 m2 m3 => ?_) υ' f' h71'⟩
              have := hm2 m m1 m2 m3
              by_cases e : m = x
              · rw [e] at m1 m2 m3
                exact absurd m2 (hno m1 m3)
              · push_cast; omega
            refine b_X13_bound_50 ?_
            rw [(e10 υ f).1, shl1 (by omega) (by omega), e2p]
            refine ⟨fun z => by omega, fun _ => ⟨fun z => absurd rfl z, fun _ => ?_⟩⟩
            rw [Ne, sub_iff (by omega) (by omega) hfr.1.1 hfr.1.2]
            refine ⟨fun q => nx υ f h71 (fun q2 => absurd q2 q), fun hsub => d_bits hsub.1.1 hsub.1.2 ?_⟩
            show WP mX13_bound 80 [vR 14 0, vI h, vI fr, vI (-1), vI (y : Int), vI (x : Int), vU] [vI (bcnt (x : Int))] υ Q
            refine b_X13_bound_80 ⟨fun hbc => ?_, fun q => nx υ f h71 (fun _ q2 => absurd q2 q)⟩
            have hU := vok_bind (m := (x : Int)) hV zh'
            -- back
            have back : ∀ (x3 : Int), ((x3 = -1 ∧ ¬ WON (bindV V x h) fr h) ∨ (x3 = x ∧ WON (bindV V x h) fr h)) → ∀ (r2 p : Nat), ((r2 + p : Nat) : Int) = pe V → ∀ ω, FR (fun c i j => kM c i j ∨ (c = 71 ∧ i = 0 ∧ j < 10)) τ ω → (∀ q, q < 10 → ω 71 0 q = if p ≤ q ∧ tbit (x : Int) q = true then h else ke V q) → WP mX13_bound 152 [vR 14 0, vI h, vI fr, vI x3, vI (y : Int), vI (x : Int), vI (p : Int)] [] ω Q := by
              intro x3 hx3 r2
              induction r2 with
              | zero =>
                intro p hp ω fo h71'
                have h71'' : ∀ q, q < 10 → ω 71 0 q = ke V q := fun q hq => by
                  rw [h71' q hq]
                  refine if_neg (fun z => ?_)
                  have := ((hfr.2 q).mp (hsub.2 q z.2)).1
                  omega
                refine b_X13_bound_152 ⟨fun _ => ?_, fun z => by rw [(e10 ω fo).1] at z; omega⟩
                rcases hx3 with ⟨e, w⟩ | ⟨e, w⟩
                · rw [e]; exact nx ω fo h71'' (fun _ _ => w)
                · rw [e]
                  refine ⟨by unfold in32; omega, ?_⟩
                  have hB : BND V h x := ⟨fr, hfr, Or.inr ⟨hsub, w, fun m m1 m2 m3 => by
                    have a1 := hm m m1 m3
                    rcases m2 with z | ⟨z, z2⟩
                    · omega
                    · have := hm2 m m1 m3 (by omega)
                      omega⟩⟩
                  refine b_X13_bound_50 ?_
                  rw [(e10 ω fo).1, shl1 (by omega) (by omega), e2p]
                  have o := out ω x (y + 1) (by omega) (by omega) hB fo h71''
                  exact ⟨fun _ => ⟨by unfold in32; omega, o⟩, fun _ => ⟨fun _ => ⟨by unfold in32; omega, o⟩, fun z => by omega⟩⟩
              | succ r2 ih2 =>
                intro p hp ω fo h71'
                refine b_X13_bound_152 ?_
                rw [(e10 ω fo).1, Ne, band_eq1 hsub.1.1 hsub.1.2 (by omega) (by omega), Int.toNat_natCast]
                refine ⟨fun z => by omega, fun _ => ⟨fun z => ⟨by unfold in32; omega, ih2 (p + 1) (by omega) ω fo (fun q hq => ?_)⟩, fun z => ⟨by omega, by unfold in32; omega, ih2 (p + 1) (by omega) _ (fo.u (Or.inr ⟨rfl, rfl, by omega⟩)) (fun q hq => ?_)⟩⟩⟩
                · rw [h71' q hq]
                  by_cases e : p ≤ q ∧ tbit (x : Int) q = true
                  · have hpq : p + 1 ≤ q := by
                      by_cases e2 : q = p
                      · rw [e2] at e; exact absurd e.2 z
                      · omega
                    rw [if_pos e, if_pos ⟨hpq, e.2⟩]
                  · rw [if_neg e, if_neg (fun w => e ⟨by omega, w.2⟩)]
                · by_cases e2 : q = p
                  · rw [e2, up_s, if_neg (fun w => by omega)]
                    exact ((hfr.2 p).mp (hsub.2 p z)).2.symm
                  · rw [up_j e2, h71' q hq]
                    by_cases e : p ≤ q ∧ tbit (x : Int) q = true
                    · rw [if_pos e, if_pos ⟨by omega, e.2⟩]
                    · rw [if_neg e, if_neg (fun w => e ⟨by omega, w.2⟩)]
            -- bound
            have put : ∀ (r2 p : Nat), ((r2 + p : Nat) : Int) = pe V → ∀ ω, FR (fun c i j => kM c i j ∨ (c = 71 ∧ i = 0 ∧ j < 10)) τ ω → (∀ q, q < 10 → ω 71 0 q = if q < p ∧ tbit (x : Int) q = true then h else ke V q) → WP mX13_bound 91 [vR 14 0, vI h, vI fr, vI (-1), vI (y : Int), vI (x : Int), vI (p : Int)] [] ω Q := by
              intro r2
              induction r2 with
              | zero =>
                intro p hp ω fo h71'
                have h71'' : ∀ q, q < 10 → ω 71 0 q = if tbit (x : Int) q = true then h else ke V q := fun q hq => by
                  rw [h71' q hq]
                  by_cases e : tbit (x : Int) q = true
                  · have := ((hfr.2 q).mp (hsub.2 q e)).1
                    rw [if_pos ⟨by omega, e⟩, if_pos e]
                  · rw [if_neg (fun z => e z.2), if_neg e]
                have hT := mtU ω x fo h71''
                refine b_X13_bound_91 ⟨fun _ => ?_, fun z => by rw [(e10 ω fo).1] at z; omega⟩
                rw [(e10 ω fo).2]
                show WP mX13_findAnswers 0 [vR 14 0, vI (an (bindV V (x : Int) h)), vU, vU] [] ω _
                refine d_findAnswers hU hT (fun ρ p1 p2 => ?_)
                show WP mX13_bound 133 [vR 14 0, vI h, vI fr, vI (-1), vI (y : Int), vI (x : Int), vU] [] ρ Q
                have hT2 : MT ρ (bindV V x h) := hT.fr p1 (fun c j hc z => by unfold fP at z; omega)
                refine b_X13_bound_133 (d_findRests hU hT2 p2 (fun κ k1 k2 => ?_))
                show WP mX13_bound 137 [vR 14 0, vI h, vI fr, vI (-1), vI (y : Int), vI (x : Int), vU] [] κ Q
                refine b_X13_bound_137 (d_isWon hU (hT2.fr k1 (fun c j hc z => by unfold frP at z; omega)) (p2.fr k1 (fun c j hc z => by unfold frP at z; omega)) k2 hfr.1 (fun μ m1 => ?_))
                show WP mX13_bound 143 [vR 14 0, vI h, vI fr, vI (-1), vI (y : Int), vI (x : Int), vU] [vI (b2 (WON (bindV V x h) fr h))] μ Q
                have fo4 : FR (fun c i j => kM c i j ∨ (c = 71 ∧ i = 0 ∧ j < 10)) τ μ := ((fo.tr (p1.wk (fun c i j z => Or.inl (by unfold fP at z; unfold kM; omega)))).tr (k1.wk (fun c i j z => Or.inl (by unfold frP at z; unfold kM; omega)))).tr (m1.wk (fun c i j z => Or.inl (by unfold wwP coP mkP smP at z; unfold kM; omega)))
                have h71m : ∀ q, q < 10 → μ 71 0 q = if 0 ≤ q ∧ tbit (x : Int) q = true then h else ke V q := fun q hq => by
                  rw [m1 71 0 q (fun z => by unfold wwP coP mkP smP at z; omega), k1 71 0 q (fun z => by unfold frP at z; omega), p1 71 0 q (fun z => by unfold fP at z; omega), h71'' q hq]
                  by_cases e : tbit (x : Int) q = true
                  · rw [if_pos e, if_pos ⟨by omega, e⟩]
                  · rw [if_neg e, if_neg (fun z => e z.2)]
                exact b_X13_bound_143 ⟨fun z => back (-1) (Or.inl ⟨rfl, b2_eq z⟩) (pe V).toNat 0 (by omega) μ fo4 h71m, fun z => back x (Or.inr ⟨rfl, b2_ne z⟩) (pe V).toNat 0 (by omega) μ fo4 h71m⟩
              | succ r2 ih2 =>
                intro p hp ω fo h71'
                refine b_X13_bound_91 ?_
                rw [(e10 ω fo).1, Ne, band_eq1 hsub.1.1 hsub.1.2 (by omega) (by omega), Int.toNat_natCast]
                refine ⟨fun z => by omega, fun _ => ⟨fun z => ⟨by unfold in32; omega, ih2 (p + 1) (by omega) ω fo (fun q hq => ?_)⟩, fun z => ⟨by omega, by unfold in32; omega, ih2 (p + 1) (by omega) _ (fo.u (Or.inr ⟨rfl, rfl, by omega⟩)) (fun q hq => ?_)⟩⟩⟩
                · rw [h71' q hq]
                  by_cases e : q < p ∧ tbit (x : Int) q = true
                  · rw [if_pos e, if_pos ⟨by omega, e.2⟩]
                  · rw [if_neg e, if_neg (fun w => ?_)]
                    by_cases e2 : q = p
                    · rw [e2] at w; exact z w.2
                    · exact e ⟨by omega, w.2⟩
                · by_cases e2 : q = p
                  · rw [e2, up_s, if_pos ⟨by omega, z⟩]
                  · rw [up_j e2, h71' q hq]
                    by_cases e : q < p ∧ tbit (x : Int) q = true
                    · rw [if_pos e, if_pos ⟨by omega, e.2⟩]
                    · rw [if_neg e, if_neg (fun w => e ⟨by omega, w.2⟩)]
            exact put (pe V).toNat 0 (by omega) υ f (fun q hq => by rw [if_neg (fun z => by omega)]; exact h71 q hq)
        exact inner (2 ^ (pe V).toNat) 0 (by omega) (fun m m1 _ _ => m1.1.1) υ f h71
    obtain ⟨b, hb⟩ : ∃ n : Nat, bcnt fr + 1 = n := ⟨(bcnt fr + 1).toNat, by omega⟩
    exact outer b 0 (by omega) (fun m _ _ => (bcnt_bd m).1) τ FR.rf (fun q hq => hT0.2.2.2.2.2.2.1 q hq)
  · rcases a with ⟨a1, a2⟩ | ⟨a1, a2⟩ <;> rcases b with ⟨b1, b2'⟩ | ⟨b1, b2'⟩
    · omega
    · omega
    · omega
    · exact a2.un b2'
end Bound
