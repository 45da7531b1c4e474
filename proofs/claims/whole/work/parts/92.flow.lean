/-! ===== flow: what goes from one STATE to another; the class' spread, the model's flowFrom ===== -/
theorem w32_sub (a b : Int) : w32 (w32 a - b) = w32 (a - b) := by
  rw [Int.sub_eq_add_neg, w32_add, ← Int.sub_eq_add_neg]
theorem w32_addr (a b : Int) : w32 (a + w32 b) = w32 (a + b) := by rw [Int.add_comm, w32_add, Int.add_comm]
theorem shr4_all : ∀ m : Fin 64, shr ((m.val : Nat) : Int) 4 = ((m.val / 16 : Nat) : Int) := by decide +kernel
theorem shr4 {m : Int} (h0 : 0 ≤ m) (h1 : m < 64) : shr m 4 = m / 16 := by
  have := shr4_all ⟨m.toNat, by omega⟩
  simp only [] at this
  rw [show ((m.toNat : Nat) : Int) = m by omega] at this
  rw [this]; omega
def ptF (V : Vy) (F q x s : Int) (p h : Nat) : Int := if tbit (ans V s p) h = true then w32 (x / F / q / ha V + w32 (x / F - x / F / q) / bcnt (ans V s p)) else x / F / q / ha V
noncomputable def gh (V : Vy) (s t : Int) (pt : Nat → Nat → Int) (p : Nat) (n : Nat) : Int := sm (fun h => (b2 (wi V s p (h : Int) = t) - b2 (t = s)) * pt p h) n
noncomputable def gp (V : Vy) (s t : Int) (pt : Nat → Nat → Int) (n : Nat) : Int := sm (fun p => if ke V p = -1 then gh V s t pt p (ha V).toNat else 0) n
section Flow
variable {σ : St} {Q : Res → St → Prop} {V : Vy} {j : Nat} {F q : Int}
theorem gp_t {s t : Int} {pt : Nat → Nat → Int} {p : Nat} (h : ke V p = -1) : gp V s t pt (p + 1) = gp V s t pt p + gh V s t pt p (ha V).toNat := by
  show sm _ p + (if ke V p = -1 then _ else 0) = _
  rw [if_pos h]; rfl
theorem gp_f {s t : Int} {pt : Nat → Nat → Int} {p : Nat} (h : ke V p ≠ -1) : gp V s t pt (p + 1) = gp V s t pt p := by
  show sm _ p + (if ke V p = -1 then _ else 0) = _
  rw [if_neg h, Int.add_zero]; rfl
theorem gh_s {s t : Int} {pt : Nat → Nat → Int} {p h : Nat} : gh V s t pt p (h + 1) = gh V s t pt p h + (b2 (wi V s p (h : Int) = t) - b2 (t = s)) * pt p h := rfl
theorem gh_own {s t : Int} {pt : Nat → Nat → Int} {p h : Nat} (hh : (h : Int) = hab V s p) : gh V s t pt p (h + 1) = gh V s t pt p h := by
  rw [gh_s, hh, wi_self, b2_congr (show s = t ↔ t = s from ⟨Eq.symm, Eq.symm⟩), Int.sub_self, Int.zero_mul, Int.add_zero]
theorem gh_hit {s t : Int} {pt : Nat → Nat → Int} {p h : Nat} (hw : wi V s p (h : Int) = t) (hne : t ≠ s) : gh V s t pt p (h + 1) = gh V s t pt p h + pt p h := by
  rw [gh_s, b2_t hw, b2_f hne, show (1 : Int) - 0 = 1 from rfl, Int.one_mul]
theorem gh_no {s t : Int} {pt : Nat → Nat → Int} {p h : Nat} (hw : wi V s p (h : Int) ≠ t) (hne : t ≠ s) : gh V s t pt p (h + 1) = gh V s t pt p h := by
  rw [gh_s, b2_f hw, b2_f hne, show (0 : Int) - 0 = 0 from rfl, Int.zero_mul, Int.add_zero]
theorem gh_self {s : Int} {pt : Nat → Nat → Int} {p h : Nat} (hw : wi V s p (h : Int) ≠ s) : gh V s s pt p (h + 1) = gh V s s pt p h - pt p h := by
  rw [gh_s, b2_f hw, b2_t rfl, show (0 : Int) - 1 = -1 from rfl, Int.neg_mul, Int.one_mul, Int.sub_eq_add_neg]
theorem wi_ne (hV : VOK V) {s : Int} {p : Nat} {x : Int} (hs : 0 ≤ s) (h0 : 0 ≤ x) (h1 : x < ha V) (hne : x ≠ hab V s p) : wi V s p x ≠ s := fun z => by
  have := hab_wi_same hV hs (p := p) h0 h1
  rw [z] at this
  exact hne this.symm
theorem pt_bd {x s : Int} (hV : VOK V) (hF : 1 ≤ F) (hq : 2 ≤ q) (hx : 0 ≤ x ∧ x < 2147483648) : (0 ≤ x / F ∧ x / F ≤ x) ∧ (0 ≤ x / F / q ∧ x / F / q ≤ x / F) ∧ (0 ≤ x / F / q / ha V ∧ x / F / q / ha V ≤ x / F / q) := by
  have hha := hV.ha
  have a1 := Int.ediv_nonneg hx.1 (show (0 : Int) ≤ F by omega)
  have a2 := Int.ediv_le_self F hx.1
  have b1 := Int.ediv_nonneg a1 (show (0 : Int) ≤ q by omega)
  have b2' := Int.ediv_le_self q a1
  have c1 := Int.ediv_nonneg b1 (show (0 : Int) ≤ ha V by omega)
  have c2 := Int.ediv_le_self (ha V) b1
  exact ⟨⟨a1, a2⟩, ⟨b1, b2'⟩, c1, c2⟩
theorem bc_ans {s : Int} {p : Nat} (hV : VOK V) (hp : (p : Int) < pe V) : 1 ≤ bcnt (ans V s p) := by
  obtain ⟨k, k1, k2⟩ := ans_some hV s hp
  have hha := hV.ha
  rw [bcnt_c]
  have := cnt_slt (P := fun k => tbit (ans V s p) k = true) (a := k) (b := 10) (by omega) k2
  omega
theorem c_spread {s : Int} (hV : VOK V) (hA : VA σ j V) (hR : REP σ j V) (hs : isSt V s) (hx : 0 < σ 20 0 s.toNat) (hF : σ 10 j 10 = F) (hF1 : 1 ≤ F) (hq : 2 ≤ q) (hro : RO σ) (h : ∀ τ, FR (fun c i _ => c = 21 ∧ i = 0) σ τ → (∀ t, isSt V t → τ 21 0 t.toNat = w32 (σ 21 0 t.toNat + ((if t = s then σ 20 0 s.toNat else 0) + gp V s t (ptF V F q (σ 20 0 s.toNat) s) (pe V).toNat))) → Q (.inl none) τ) : WP mX0_spread 0 [vR 1 0, vR 2 j, vI s, vI q, vU, vU, vU, vU, vU, vU, vU, vU, vU, vU, vU] [] σ Q := by
  have hpe := hV.pe
  have hha := hV.ha
  have hcod := hV.cod
  have hsb := st_bd hV hs
  have hsc := hs.1
  obtain ⟨T, P, Fr, L, M⟩ := hA
  have hxr : in32 (σ 20 0 s.toNat) := (hro 20 0 _).2 rfl
  have hxb : 0 ≤ σ 20 0 s.toNat ∧ σ 20 0 s.toNat < 2147483648 := ⟨by omega, hxr.2⟩
  obtain ⟨⟨a1, a2⟩, ⟨b1, b2'⟩, c1, c2⟩ := pt_bd (s := s) hV hF1 hq hxb
  refine b_X0_spread_0 ?_
  rw [hF, show max 1 F = F by omega, show max 1 q = q by omega, T.ha]
  refine ⟨hsb, ⟨by omega, by omega⟩, ⟨a1, by omega⟩, ⟨b1, by omega⟩, hsb, ?_⟩
  generalize hX : σ 20 0 s.toNat = X at *
  have inr : ∀ t, in32 (σ 21 0 t) := fun t => (hro 21 0 t).2 rfl
  have ew : w32 (X / F - X / F / q) = X / F - X / F / q := w32_id (by unfold in32; omega)
  have outer : ∀ r p : Nat, ((r + p : Nat) : Int) = pe V → ∀ (τ : St) (l : Int), FR (fun c i _ => c = 21 ∧ i = 0) σ τ → (∀ t, isSt V t → t ≠ s → τ 21 0 t.toNat = w32 (σ 21 0 t.toNat + gp V s t (ptF V F q X s) p)) → τ 21 0 s.toNat = σ 21 0 s.toNat → l = w32 (X + gp V s s (ptF V F q X s) p) → WP mX0_spread 55 [vR 1 0, vR 2 j, vI s, vU, vR 10 j, vI (X / F), vI (X / F / q), vI (X / F / q / ha V), vI l, vI (p : Int), vU, vU, vU, vU, vU] [] τ Q := by
    intro r
    induction r with
    | zero =>
      intro p hp τ l f1 i1 i2 i3
      have e100 : τ 10 j 0 = pe V := by rw [f1 10 j 0 (fun z => by omega)]; exact T.pe
      refine b_X0_spread_55 ⟨fun _ => ⟨hsb, hsb, h _ (f1.u ⟨rfl, rfl⟩) (fun t ht => ?_)⟩, fun z => by omega⟩
      have htb := st_bd hV ht
      rw [show (pe V).toNat = p by omega]
      by_cases e : t = s
      · rw [e, up_s, i2, i3, w32_addr, if_pos rfl]
      · rw [up_j (by omega), i1 t ht e, if_neg e, Int.zero_add]
    | succ r ih =>
      intro p hp τ l f1 i1 i2 i3
      have g : ∀ c k, c ≠ 21 → τ c j k = σ c j k := fun c k hc => f1 c j k (fun z => hc z.1)
      have hrow := hR s hs p (by omega)
      have hb1 := hab_bd hV s p
      have hb2 := ans_bd hV s (p := p) (by omega)
      have hbc := bc_ans (s := s) (p := p) hV (by omega)
      have hpw := pw_pos hV p
      refine b_X0_spread_55 ?_
      rw [g 10 0 (by omega), g 10 9 (by omega), g 23 _ (by omega), T.pe, band_ne Fr.1.1 Fr.1.2 (by omega) (by omega), Int.toNat_natCast, Fr.2.1 p, hrow, band15 (by omega) (by omega), show (16 * hab V s p + ans V s p) % 16 = ans V s p by omega, shr4 (by omega) (by omega), show (16 * hab V s p + ans V s p) / 16 = hab V s p by omega, ew, show max 1 (bcnt (ans V s p)) = bcnt (ans V s p) by omega]
      refine ⟨fun z => by omega, fun _ => ⟨fun z => ⟨⟨by unfold in32; omega, by unfold in32; omega, by omega, by omega⟩, ⟨by unfold in32; omega, by unfold in32; omega, by omega, by omega⟩, ⟨by omega, by omega⟩, ⟨by omega, by omega⟩, ?_⟩, fun z => ⟨by unfold in32; omega, ih (p + 1) (by omega) τ l f1 (fun t ht hne => ?_) i2 ?_⟩⟩⟩
      · have hk := z.2
        have inner : ∀ r2 y : Nat, ((r2 + y : Nat) : Int) = ha V → ∀ (τ : St) (l : Int), FR (fun c i _ => c = 21 ∧ i = 0) σ τ → (∀ t, isSt V t → t ≠ s → τ 21 0 t.toNat = w32 (σ 21 0 t.toNat + (gp V s t (ptF V F q X s) p + gh V s t (ptF V F q X s) p y))) → τ 21 0 s.toNat = σ 21 0 s.toNat → l = w32 (X + (gp V s s (ptF V F q X s) p + gh V s s (ptF V F q X s) p y)) → WP mX0_spread 122 [vR 1 0, vR 2 j, vI s, vU, vR 10 j, vI (X / F), vI (X / F / q), vI (X / F / q / ha V), vI l, vI (p : Int), vI (ans V s p), vI (hab V s p), vI ((X / F - X / F / q) / bcnt (ans V s p)), vI (y : Int), vU] [] τ Q := by
          intro r2
          induction r2 with
          | zero =>
            intro y hy τ l f1 i1 i2 i3
            have e101 : τ 10 j 1 = ha V := by rw [f1 10 j 1 (fun z => by omega)]; exact T.ha
            refine b_X0_spread_122 ⟨fun _ => ⟨by unfold in32; omega, ih (p + 1) (by omega) τ l f1 (fun t ht hne => ?_) i2 ?_⟩, fun z => by omega⟩
            · rw [gp_t hk, show (ha V).toNat = y by omega]; exact i1 t ht hne
            · rw [gp_t hk, show (ha V).toNat = y by omega]; exact i3
          | succ r2 ih2 =>
            intro y hy τ l f1 i1 i2 i3
            have e101 : τ 10 j 1 = ha V := by rw [f1 10 j 1 (fun z => by omega)]; exact T.ha
            have e60 : τ 60 j p = ha V ^ p := by rw [f1 60 j p (fun z => by omega)]; exact P.1 p (by omega)
            refine b_X0_spread_122 ?_
            rw [e101]
            refine ⟨fun z => by omega, fun _ => ⟨fun e => ⟨by unfold in32; omega, ih2 (y + 1) (by omega) τ l f1 (fun t ht hne => by rw [gh_own e]; exact i1 t ht hne) i2 (by rw [gh_own e]; exact i3)⟩, fun hne => ?_⟩⟩
            have hwi := isSt_wi hV hs (p := p) (by omega) hk (x := (y : Int)) (by omega) (by omega)
            have hwb := st_bd hV hwi
            have hwn := wi_ne hV (p := p) hsb.1 (x := (y : Int)) (by omega) (by omega) hne
            have put : WP mX0_spread 159 [vR 1 0, vR 2 j, vI s, vU, vR 10 j, vI (X / F), vI (X / F / q), vI (X / F / q / ha V), vI l, vI (p : Int), vI (ans V s p), vI (hab V s p), vI ((X / F - X / F / q) / bcnt (ans V s p)), vI (y : Int), vU] [vI (ptF V F q X s p y)] τ Q := by
              have e1 : w32 ((y : Int) - hab V s p) = (y : Int) - hab V s p := w32_id (by unfold in32; omega)
              have e2 : w32 (s + ((y : Int) - hab V s p) * ha V ^ p) = wi V s p (y : Int) := w32_id (by unfold wi at hwb; unfold in32; omega)
              refine b_X0_spread_159 ?_
              rw [Int.toNat_natCast, e60, e1, e2]
              refine ⟨by omega, by unfold wi at hwb; unfold in32; omega, hwb, hwb, by unfold in32; omega, ih2 (y + 1) (by omega) _ _ (f1.u ⟨rfl, rfl⟩) (fun t ht hts => ?_) ?_ ?_⟩
              · have htb := st_bd hV ht
                by_cases e : wi V s p (y : Int) = t
                · rw [gh_hit e hts, e, up_s, i1 t ht hts, w32_add]
                  refine congrArg w32 ?_
                  omega
                · rw [gh_no e hts, up_j (by omega)]; exact i1 t ht hts
              · rw [up_j (by omega)]; exact i2
              · rw [gh_self hwn, i3, w32_sub]
                refine congrArg w32 ?_
                omega
            rw [band_eq0 hb2.1 (by omega) (by omega) (by omega), band_ne hb2.1 (by omega) (by omega) (by omega), Int.toNat_natCast]
            refine ⟨fun z => ?_, fun z => ?_⟩
            · unfold ptF at put
              rw [if_neg z] at put
              exact put
            · unfold ptF at put
              rw [if_pos z, ew] at put
              exact put
        exact inner (ha V).toNat 0 (by omega) τ l f1 (fun t ht hne => by rw [show gh V s t (ptF V F q X s) p 0 = 0 from rfl, Int.add_zero]; exact i1 t ht hne) i2 (by rw [show gh V s s (ptF V F q X s) p 0 = 0 from rfl, Int.add_zero]; exact i3)
      · rw [gp_f (fun w => z ⟨by omega, w⟩)]; exact i1 t ht hne
      · rw [gp_f (fun w => z ⟨by omega, w⟩)]; exact i3
  exact outer (pe V).toNat 0 (by omega) σ X FR.rf (fun t ht hne => by rw [show gp V s t (ptF V F q X s) 0 = 0 from rfl, Int.add_zero, w32_id (inr _)]) rfl (by rw [show gp V s s (ptF V F q X s) 0 = 0 from rfl, Int.add_zero, w32_id hxr])
theorem d_flowFrom {s X : Int} (hV : VOK V) (hT : MT σ V) (hR : MRP σ V) (hs : isSt V s) (hx : 0 < X ∧ X < 2147483648) (hF1 : 1 ≤ F) (hq : 2 ≤ q) (hro : RO σ) (h : ∀ τ, FR (fun c i _ => c = 102 ∧ i = 0) σ τ → (∀ t, isSt V t → τ 102 0 t.toNat = w32 (σ 102 0 t.toNat + ((if t = s then X else 0) + gp V s t (ptF V F q X s) (pe V).toNat))) → (∀ k : Nat, ¬ isSt V (k : Int) → τ 102 0 k = σ 102 0 k) → Q (.inl none) τ) : WP mX13_flowFrom 0 [vR 14 0, vI s, vI X, vI (X / F), vI q, vU, vU, vU, vU, vU, vU, vU] [] σ Q := by
  have hpe := hV.pe
  have hha := hV.ha
  have hcod := hV.cod
  have hsb := st_bd hV hs
  obtain ⟨⟨a1, a2⟩, ⟨b1, b2'⟩, c1, c2⟩ := pt_bd (s := s) hV hF1 hq ⟨by omega, hx.2⟩
  have inr : ∀ t, in32 (σ 102 0 t) := fun t => (hro 102 0 t).2 rfl
  have ew : w32 (X / F - X / F / q) = X / F - X / F / q := w32_id (by unfold in32; omega)
  refine b_X13_flowFrom_0 ?_
  rw [hT.2.1]
  refine ⟨⟨a1, by omega⟩, ⟨b1, by omega⟩, ?_⟩
  have hsN : isSt V ((s.toNat : Nat) : Int) := by rw [show ((s.toNat : Nat) : Int) = s by omega]; exact hs
  have outer : ∀ r p : Nat, ((r + p : Nat) : Int) = pe V → ∀ (τ : St) (l C : Int), FR (fun c i _ => c = 102 ∧ i = 0) σ τ → (∀ t, isSt V t → t ≠ s → τ 102 0 t.toNat = w32 (σ 102 0 t.toNat + gp V s t (ptF V F q X s) p)) → (∀ k : Nat, ¬ isSt V (k : Int) → τ 102 0 k = σ 102 0 k) → τ 102 0 s.toNat = w32 (σ 102 0 s.toNat + C) → l = w32 (X + gp V s s (ptF V F q X s) p - C) → WP mX13_flowFrom 17 [vR 14 0, vI s, vU, vI (X / F), vI q, vI l, vI (X / F / q / ha V), vI (p : Int), vU, vU, vU, vU] [] τ Q := by
    intro r
    induction r with
    | zero =>
      intro p hp τ l C f1 i1 i0 i2 i3
      have e10 : τ 14 0 10 = pe V := by rw [f1 14 0 10 (fun z => by omega)]; exact hT.1
      refine b_X13_flowFrom_17 ⟨fun _ => ⟨hsb, hsb, h _ (f1.u ⟨rfl, rfl⟩) (fun t ht => ?_) (fun k hk => ?_)⟩, fun z => by omega⟩
      · have htb := st_bd hV ht
        rw [show (pe V).toNat = p by omega]
        by_cases e : t = s
        · rw [e, up_s, i2, i3, w32_addr, w32_add, if_pos rfl]
          refine congrArg w32 ?_
          omega
        · rw [up_j (by omega), i1 t ht e, if_neg e, Int.zero_add]
      · rw [up_j (fun z => hk (by rw [z]; exact hsN))]; exact i0 k hk
    | succ r ih =>
      intro p hp τ l C f1 i1 i0 i2 i3
      have g : ∀ c k, c ≠ 102 → τ c 0 k = σ c 0 k := fun c k hc => f1 c 0 k (fun z => hc z.1)
      have hb1 := hab_bd hV s p
      have hb2 := ans_bd hV s (p := p) (by omega)
      have hbc := bc_ans (s := s) (p := p) hV (by omega)
      have hpw := pw_pos hV p
      have e78 : σ 78 0 (10 * s + p).toNat = ans V s p := hR.2 s hs p (by omega)
      have e0 : w32 (10 * s + (p : Int)) = 10 * s + p := w32_id (by unfold in32; omega)
      refine b_X13_flowFrom_17 ?_
      rw [g 14 10 (by omega), hT.1, Int.toNat_natCast, g 71 _ (by omega), hT.2.2.2.2.2.2.1 p (by omega), e0, g 78 _ (by omega), e78, ew]
      refine ⟨fun z => by omega, fun _ => ⟨by omega, fun hk => ⟨by unfold in32; omega, by omega, ⟨a1, by omega⟩, d_bits hb2.1 (by omega) ?_⟩, fun hk => ⟨by unfold in32; omega, ih (p + 1) (by omega) τ l C f1 (fun t ht hne => by rw [gp_f hk]; exact i1 t ht hne) i0 i2 (by rw [gp_f hk]; exact i3)⟩⟩⟩
      show WP mX13_flowFrom 65 [vR 14 0, vI s, vU, vI (X / F), vI q, vI l, vI (X / F / q / ha V), vI (p : Int), vI (ans V s p), vU, vU, vU] [vI (bcnt (ans V s p)), vI (X / F - X / F / q)] τ Q
      refine b_X13_flowFrom_65 ⟨⟨by omega, by omega⟩, ?_⟩
      have inner : ∀ r2 y : Nat, ((r2 + y : Nat) : Int) = ha V → ∀ (τ : St) (l C : Int), FR (fun c i _ => c = 102 ∧ i = 0) σ τ → (∀ t, isSt V t → t ≠ s → τ 102 0 t.toNat = w32 (σ 102 0 t.toNat + (gp V s t (ptF V F q X s) p + gh V s t (ptF V F q X s) p y))) → (∀ k : Nat, ¬ isSt V (k : Int) → τ 102 0 k = σ 102 0 k) → τ 102 0 s.toNat = w32 (σ 102 0 s.toNat + C) → l = w32 (X + (gp V s s (ptF V F q X s) p + gh V s s (ptF V F q X s) p y) - C) → WP mX13_flowFrom 71 [vR 14 0, vI s, vU, vI (X / F), vI q, vI l, vI (X / F / q / ha V), vI (p : Int), vI (ans V s p), vI ((X / F - X / F / q) / bcnt (ans V s p)), vI (y : Int), vU] [] τ Q := by
        intro r2
        induction r2 with
        | zero =>
          intro y hy τ l C f1 i1 i0 i2 i3
          have e11 : τ 14 0 11 = ha V := by rw [f1 14 0 11 (fun z => by omega)]; exact hT.2.1
          refine b_X13_flowFrom_71 ⟨fun _ => ⟨by unfold in32; omega, ih (p + 1) (by omega) τ l C f1 (fun t ht hne => ?_) i0 i2 ?_⟩, fun z => by omega⟩
          · rw [gp_t hk, show (ha V).toNat = y by omega]; exact i1 t ht hne
          · rw [gp_t hk, show (ha V).toNat = y by omega]; exact i3
        | succ r2 ih2 =>
          intro y hy τ l C f1 i1 i0 i2 i3
          have e11 : τ 14 0 11 = ha V := by rw [f1 14 0 11 (fun z => by omega)]; exact hT.2.1
          have e77 : τ 77 0 p = ha V ^ p := by rw [f1 77 0 p (fun z => by omega)]; exact hT.2.2.2.2.2.2.2.1 p (by omega)
          have hwi := isSt_wi hV hs (p := p) (by omega) hk (x := (y : Int)) (by omega) (by omega)
          have hwb := st_bd hV hwi
          have put : ∀ t0 : Int, w32 (X / F / q / ha V + t0) = ptF V F q X s p y → WP mX13_flowFrom 99 [vR 14 0, vI s, vU, vI (X / F), vI q, vI l, vI (X / F / q / ha V), vI (p : Int), vI (ans V s p), vI ((X / F - X / F / q) / bcnt (ans V s p)), vI (y : Int), vU] [vI t0, vI (X / F / q / ha V)] τ Q := fun t0 ht0 => by
            have eW : s + ((y : Int) - s / ha V ^ p % ha V) * ha V ^ p = wi V s p (y : Int) := rfl
            have eH : s / ha V ^ p % ha V = hab V s p := rfl
            refine b_X13_flowFrom_99 ?_
            rw [Int.toNat_natCast, e77, e11, eW, ht0, eH]
            have fu : FR (fun c i _ => c = 102 ∧ i = 0) σ (up τ 102 0 (wi V s p (y : Int)).toNat (w32 (τ 102 0 (wi V s p (y : Int)).toNat + ptF V F q X s p y))) := f1.u ⟨rfl, rfl⟩
            refine ⟨⟨by omega, by omega, hsb.1, hpw, Int.ediv_nonneg hsb.1 (Int.le_of_lt hpw), by omega, by unfold in32; omega, by omega, by omega, by unfold wi at hwb; unfold in32; omega, by unfold in32; omega⟩, hwb, hwb, by unfold in32; omega, ?_⟩
            have i0' : ∀ k : Nat, ¬ isSt V (k : Int) → (up τ 102 0 (wi V s p (y : Int)).toNat (w32 (τ 102 0 (wi V s p (y : Int)).toNat + ptF V F q X s p y))) 102 0 k = σ 102 0 k := fun k hkk => by
              rw [up_j (fun z => hkk (by rw [z, show (((wi V s p (y : Int)).toNat : Nat) : Int) = wi V s p (y : Int) by omega]; exact hwi))]; exact i0 k hkk
            by_cases e : (y : Int) = hab V s p
            · have ews : wi V s p (y : Int) = s := by rw [e, wi_self]
              rw [ews] at fu i0' ⊢
              refine ih2 (y + 1) (by omega) _ _ (C + ptF V F q X s p y) fu (fun t ht hts => ?_) i0' ?_ ?_
              · have htb := st_bd hV ht
                rw [gh_own e, up_j (by omega)]; exact i1 t ht hts
              · rw [up_s, i2, w32_add]
                refine congrArg w32 ?_
                omega
              · rw [gh_own e, i3, w32_sub]
                refine congrArg w32 ?_
                omega
            · have hwn := wi_ne hV (p := p) hsb.1 (x := (y : Int)) (by omega) (by omega) e
              refine ih2 (y + 1) (by omega) _ _ C fu (fun t ht hts => ?_) i0' ?_ ?_
              · have htb := st_bd hV ht
                by_cases e2 : wi V s p (y : Int) = t
                · rw [gh_hit e2 hts, e2, up_s, i1 t ht hts, w32_add]
                  refine congrArg w32 ?_
                  omega
                · rw [gh_no e2 hts, up_j (by omega)]; exact i1 t ht hts
              · rw [up_j (by omega)]; exact i2
              · rw [gh_self hwn, i3, w32_sub]
                refine congrArg w32 ?_
                omega
          refine b_X13_flowFrom_71 ?_
          rw [e11, Ne, band_eq1 hb2.1 (by omega) (by omega) (by omega), Int.toNat_natCast]
          refine ⟨fun z => by omega, fun _ => ⟨fun z => put _ ?_, fun z => put _ ?_⟩⟩
          · unfold ptF
            rw [if_neg z, Int.add_zero, w32_id (by unfold in32; omega)]
          · unfold ptF
            rw [if_pos z, ew]
      exact inner (ha V).toNat 0 (by omega) τ l C f1 (fun t ht hne => by rw [show gh V s t (ptF V F q X s) p 0 = 0 from rfl, Int.add_zero]; exact i1 t ht hne) i0 i2 (by rw [show gh V s s (ptF V F q X s) p 0 = 0 from rfl, Int.add_zero]; exact i3)
  refine outer (pe V).toNat 0 (by omega) σ X 0 FR.rf (fun t ht hne => by rw [show gp V s t (ptF V F q X s) 0 = 0 from rfl, Int.add_zero, w32_id (inr _)]) (fun _ _ => rfl) (by rw [Int.add_zero, w32_id (inr _)]) ?_
  rw [show gp V s s (ptF V F q X s) 0 = 0 from rfl, Int.add_zero, Int.sub_zero, w32_id (by unfold in32; omega)]
end Flow
