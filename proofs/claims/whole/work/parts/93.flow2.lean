/-! ===== flow: a round, all rounds ===== -/
noncomputable def ctF (V : Vy) (F q : Int) (f : Nat → Int) (t : Int) (s : Nat) : Int := @ite Int (isSt V (s : Int) ∧ 0 < f s) (Classical.propDecidable _) ((if t = (s : Int) then f s else 0) + gp V (s : Int) t (ptF V F q (f s) (s : Int)) (pe V).toNat) 0
noncomputable def phi (V : Vy) (F q : Int) (f : Nat → Int) (t : Int) : Int := w32 (sm (ctF V F q f t) 1024)
noncomputable def itF (V : Vy) (F q : Int) (f : Nat → Int) : Nat → Nat → Int
  | 0 => f
  | r + 1 => fun t => phi V F q (itF V F q f r) (t : Int)
section Flow2
variable {σ : St} {Q : Res → St → Prop} {V : Vy} {j : Nat} {F q : Int} {f g : Nat → Int}
theorem ct_t {t : Int} {s : Nat} (h : isSt V (s : Int) ∧ 0 < f s) : ctF V F q f t s = (if t = (s : Int) then f s else 0) + gp V (s : Int) t (ptF V F q (f s) (s : Int)) (pe V).toNat := if_pos h
theorem ct_f {t : Int} {s : Nat} (h : ¬ (isSt V (s : Int) ∧ 0 < f s)) : ctF V F q f t s = 0 := if_neg h
theorem phi_cg {t : Int} (h : ∀ s : Nat, isSt V (s : Int) → f s = g s) : phi V F q f t = phi V F q g t := by
  unfold phi
  refine congrArg w32 (sm_congr (fun s _ => ?_))
  by_cases e : isSt V (s : Int) ∧ 0 < f s
  · rw [ct_t e, ct_t (f := g) ⟨e.1, by rw [← h s e.1]; exact e.2⟩, h s e.1]
  · rw [ct_f e, ct_f (f := g) (fun z => e ⟨z.1, by rw [h s z.1]; exact z.2⟩)]
theorem itF_fix {r : Nat} (h : ∀ s : Nat, isSt V (s : Int) → g s = itF V F q f r s) (hfix : ∀ s : Nat, isSt V (s : Int) → g s = phi V F q g (s : Int)) : ∀ k : Nat, ∀ s : Nat, isSt V (s : Int) → g s = itF V F q f (r + k) s := by
  intro k
  induction k with
  | zero => exact h
  | succ k ih =>
    intro s hs
    rw [hfix s hs]
    show phi V F q g (s : Int) = phi V F q (itF V F q f (r + k)) (s : Int)
    exact phi_cg ih
/-- sums over the list of STATES -/
theorem lst_first {f : Nat → Int} (hV : VOK V) (hL : VL σ j V) (hf : ∀ s : Nat, ¬ isSt V (s : Int) → f s = 0) (b : Nat) (h1 : (0 : Int) < σ 10 j 12 → b = (σ 61 j 0).toNat) (h2 : ¬ (0 : Int) < σ 10 j 12 → b = 1024) : sm f b = 0 := by
  rw [sm_split (f := f) (n := 0) b (by omega) (fun y _ hy => hf y (fun hs => ?_))]
  · rfl
  · obtain ⟨a, a1, a2⟩ := hL.2.2.2.1 _ hs
    have hb := h1 (by omega)
    by_cases e : a = 0
    · rw [e] at a2; omega
    · have := hL.2.2.1 0 a (by omega) a1
      omega
theorem lst_next {f : Nat → Int} {i : Nat} (hV : VOK V) (hL : VL σ j V) (hf : ∀ s : Nat, ¬ isSt V (s : Int) → f s = 0) (hi : (i : Int) < σ 10 j 12) (b : Nat) (h1 : ((i + 1 : Nat) : Int) < σ 10 j 12 → b = (σ 61 j (i + 1)).toNat) (h2 : ¬ ((i + 1 : Nat) : Int) < σ 10 j 12 → b = 1024) : sm f b = sm f (σ 61 j i).toNat + f (σ 61 j i).toNat := by
  have hq := hL.2.1 i hi
  have hqb := st_bd hV hq
  have hb : (σ 61 j i).toNat + 1 ≤ b ∧ ∀ y : Nat, (σ 61 j i).toNat + 1 ≤ y → y < b → ¬ isSt V (y : Int) := by
    by_cases e : ((i + 1 : Nat) : Int) < σ 10 j 12
    · have hbe := h1 e
      have := hL.2.2.1 i (i + 1) (by omega) e
      refine ⟨by omega, fun y hy1 hy2 hs => ?_⟩
      obtain ⟨a, a1, a2⟩ := hL.2.2.2.1 _ hs
      by_cases e2 : a ≤ i
      · by_cases e3 : a = i
        · rw [e3] at a2; omega
        · have := hL.2.2.1 a i (by omega) hi; omega
      · by_cases e3 : a = i + 1
        · rw [e3] at a2; omega
        · have := hL.2.2.1 (i + 1) a (by omega) a1; omega
    · have hbe := h2 e
      refine ⟨by omega, fun y hy1 hy2 hs => ?_⟩
      obtain ⟨a, a1, a2⟩ := hL.2.2.2.1 _ hs
      by_cases e3 : a = i
      · rw [e3] at a2; omega
      · have := hL.2.2.1 a i (by omega) hi; omega
  rw [sm_split (f := f) (n := (σ 61 j i).toNat + 1) b hb.1 (fun y y1 y2 => hf y (hb.2 y y1 y2)), sm]
theorem c_flowOnce (hV : VOK V) (hA : VA σ j V) (hR : REP σ j V) (hF : σ 10 j 10 = F) (hF1 : 1 ≤ F) (hq : 2 ≤ q) (h : ∀ τ b, FR (fun c i _ => (c = 20 ∨ c = 21) ∧ i = 0) σ τ → (∀ s : Nat, isSt V (s : Int) → τ 20 0 s = phi V F q (σ 20 0) (s : Int)) → (b = 0 ∨ b = 1) → (b = 0 → ∀ s : Nat, isSt V (s : Int) → σ 20 0 s = phi V F q (σ 20 0) (s : Int)) → Q (.inl (some (vI b))) τ) : WP mX0_flowOnce 0 [vR 1 0, vR 2 j, vI q, vU, vU, vU, vU] [] σ Q := by
  have hcod := hV.cod
  have hc0 := cod_pos hV
  have hL := hA.2.2.2.1
  have hN := hL.1
  refine b_X0_flowOnce_0 (c_fillTo (by omega) rfl rfl (by omega) rfl ?_)
  show WP mX0_flowOnce 17 [vR 1 0, vR 2 j, vI q, vR 10 j, vU, vU, vU] [] _ Q
  rw [hA.2.1.2]
  have f0 : FR (fun c i _ => c = 21 ∧ i = 0) σ (upR σ 21 0 0 (min (cod V).toNat (al 21)) (fun _ => 0)) := FR.rf.uR (fun k _ _ => ⟨rfl, rfl⟩)
  have e21 : ∀ k : Nat, (k : Int) < cod V → (upR σ 21 0 0 (min (cod V).toNat (al 21)) (fun _ => 0)) 21 0 k = 0 := fun k hk => by
    unfold upR
    rw [if_pos ⟨rfl, rfl, by omega, by show k < 0 + min (cod V).toNat 1024; omega⟩]
  generalize (upR σ 21 0 0 (min (cod V).toNat (al 21)) (fun _ => 0)) = τ0 at *
  refine b_X0_flowOnce_17 ?_
  have zer : ∀ t : Int, ∀ s : Nat, ¬ isSt V (s : Int) → ctF V F q (σ 20 0) t s = 0 := fun t s hs => ct_f (fun z => hs z.1)
  -- the rest: what has come
  have back : ∀ τ1 : St, FR (fun c i _ => c = 21 ∧ i = 0) σ τ1 → (∀ t, isSt V t → τ1 21 0 t.toNat = phi V F q (σ 20 0) t) → ∀ r i : Nat, ((r + i : Nat) : Int) = σ 10 j 12 → ∀ (τ : St) (x : Int), FR (fun c i _ => c = 20 ∧ i = 0) τ1 τ → (∀ a : Nat, (a : Int) < σ 10 j 12 → τ 20 0 (σ 61 j a).toNat = if a < i then τ1 21 0 (σ 61 j a).toNat else τ1 20 0 (σ 61 j a).toNat) → (x = 0 ∨ x = 1) → (x = 0 → ∀ a : Nat, a < i → τ1 20 0 (σ 61 j a).toNat = τ1 21 0 (σ 61 j a).toNat) → WP mX0_flowOnce 69 [vR 1 0, vU, vU, vR 10 j, vI x, vI (i : Int), vU] [] τ Q := by
    intro τ1 g1 hphi r
    have e20 : ∀ k, τ1 20 0 k = σ 20 0 k := fun k => g1 20 0 k (fun z => by omega)
    induction r with
    | zero =>
      intro i hi τ x f1 i1 i2 i3
      have e12 : τ 10 j 12 = σ 10 j 12 := by rw [f1 10 j 12 (fun z => by omega), g1 10 j 12 (fun z => by omega)]
      refine b_X0_flowOnce_69 ⟨fun _ => ⟨i2, h τ x ((g1.wk (fun c i j z => by omega)).tr (f1.wk (fun c i j z => by omega))) (fun s hs => ?_) i2 (fun hx s hs => ?_)⟩, fun z => by omega⟩
      · obtain ⟨a, a1, a2⟩ := hL.2.2.2.1 _ hs
        have := i1 a a1
        rw [a2, Int.toNat_natCast, if_pos (by omega)] at this
        rw [this, ← hphi (s : Int) hs, Int.toNat_natCast]
      · obtain ⟨a, a1, a2⟩ := hL.2.2.2.1 _ hs
        have := i3 hx a (by omega)
        rw [a2, Int.toNat_natCast] at this
        rw [← e20, this, ← hphi (s : Int) hs, Int.toNat_natCast]
    | succ r ih =>
      intro i hi τ x f1 i1 i2 i3
      have e12 : τ 10 j 12 = σ 10 j 12 := by rw [f1 10 j 12 (fun z => by omega), g1 10 j 12 (fun z => by omega)]
      have e61 : ∀ k, τ 61 j k = σ 61 j k := fun k => by rw [f1 61 j k (fun z => by omega), g1 61 j k (fun z => by omega)]
      have e21' : ∀ k, τ 21 0 k = τ1 21 0 k := fun k => f1 21 0 k (fun z => by omega)
      have hq' := hL.2.1 i (by omega)
      have hqb := st_bd hV hq'
      have ei := i1 i (by omega)
      rw [if_neg (by omega)] at ei
      have nx : ∀ x' : Int, (x' = 0 ∨ x' = 1) → (x' = 0 → x = 0 ∧ τ1 20 0 (σ 61 j i).toNat = τ1 21 0 (σ 61 j i).toNat) → in32 ((i : Int) + 1) ∧ WP mX0_flowOnce 69 [vR 1 0, vU, vU, vR 10 j, vI x', vI ((i : Int) + 1), vU] [] (up τ 20 0 (σ 61 j i).toNat (τ1 21 0 (σ 61 j i).toNat)) Q := fun x' h01 h0 => by
        refine ⟨by unfold in32; omega, ih (i + 1) (by omega) _ x' (f1.u ⟨rfl, rfl⟩) (fun a ha => ?_) h01 (fun hx a ha => ?_)⟩
        · by_cases e : a = i
          · rw [e, up_s, if_pos (by omega)]
          · have hne : (σ 61 j a).toNat ≠ (σ 61 j i).toNat := fun z => by
              have ha' := st_bd hV (hL.2.1 a ha)
              by_cases e2 : a < i
              · have := hL.2.2.1 a i e2 (by omega); omega
              · have := hL.2.2.1 i a (by omega) ha; omega
            rw [up_j hne, i1 a ha]
            by_cases e2 : a < i
            · rw [if_pos e2, if_pos (by omega)]
            · rw [if_neg e2, if_neg (by omega)]
        · by_cases e : a = i
          · rw [e]; exact (h0 hx).2
          · exact i3 (h0 hx).1 a (by omega)
      refine b_X0_flowOnce_69 ?_
      rw [e12, Int.toNat_natCast, e61, e21', ei]
      refine ⟨fun z => by omega, fun _ => ⟨by omega, hqb, hqb, fun he => ⟨hqb, hqb, ?_⟩, fun he => ⟨hqb, hqb, ?_⟩⟩⟩
      · rcases i2 with z | z
        · rw [z, show bor 0 0 = 0 from by decide]; exact nx 0 (Or.inl rfl) (fun _ => ⟨z, he⟩)
        · rw [z, show bor 1 0 = 1 from by decide]; exact nx 1 (Or.inr rfl) (fun z => by omega)
      · rcases i2 with z | z
        · rw [z, show bor 0 1 = 1 from by decide]; exact nx 1 (Or.inr rfl) (fun z => by omega)
        · rw [z, show bor 1 1 = 1 from by decide]; exact nx 1 (Or.inr rfl) (fun z => by omega)
  have key : ∀ r i : Nat, ((r + i : Nat) : Int) = σ 10 j 12 → ∀ τ, FR (fun c i _ => c = 21 ∧ i = 0) σ τ → (∀ b : Nat, ((i : Int) < σ 10 j 12 → b = (σ 61 j i).toNat) → (¬ (i : Int) < σ 10 j 12 → b = 1024) → ∀ t, isSt V t → τ 21 0 t.toNat = w32 (sm (ctF V F q (σ 20 0) t) b)) → WP mX0_flowOnce 20 [vR 1 0, vR 2 j, vI q, vR 10 j, vI (i : Int), vU, vU] [] τ Q := by
    intro r
    induction r with
    | zero =>
      intro i hi τ f1 i1
      have e12 : τ 10 j 12 = σ 10 j 12 := f1 10 j 12 (fun z => by omega)
      refine b_X0_flowOnce_20 ⟨fun _ => ?_, fun z => by omega⟩
      exact back τ f1 (fun t ht => i1 1024 (fun z => by omega) (fun _ => rfl) t ht) (σ 10 j 12).toNat 0 (by omega) τ 0 FR.rf (fun a ha => by rw [if_neg (by omega)]) (Or.inl rfl) (fun _ a ha => by omega)
    | succ r ih =>
      intro i hi τ f1 i1
      have e12 : τ 10 j 12 = σ 10 j 12 := f1 10 j 12 (fun z => by omega)
      have e61 : ∀ k, τ 61 j k = σ 61 j k := fun k => f1 61 j k (fun z => by omega)
      have e20 : ∀ k, τ 20 0 k = σ 20 0 k := fun k => f1 20 0 k (fun z => by omega)
      have hq' := hL.2.1 i (by omega)
      have hqb := st_bd hV hq'
      have hqN : isSt V (((σ 61 j i).toNat : Nat) : Int) := by rw [show (((σ 61 j i).toNat : Nat) : Int) = σ 61 j i by omega]; exact hq'
      have i1' := i1 (σ 61 j i).toNat (fun _ => rfl) (fun z => by omega)
      have nx : ∀ τ', FR (fun c i _ => c = 21 ∧ i = 0) σ τ' → (∀ t, isSt V t → τ' 21 0 t.toNat = w32 (sm (ctF V F q (σ 20 0) t) (σ 61 j i).toNat + ctF V F q (σ 20 0) t (σ 61 j i).toNat)) → WP mX0_flowOnce 57 [vR 1 0, vR 2 j, vI q, vR 10 j, vI (i : Int), vU, vU] [] τ' Q := fun τ' f' hh => b_X0_flowOnce_57 ⟨by unfold in32; omega, ih (i + 1) (by omega) τ' f' (fun b hb1 hb2 t ht => by rw [hh t ht, lst_next hV hL (zer t) (by omega) b hb1 hb2])⟩
      refine b_X0_flowOnce_20 ?_
      rw [e12, Int.toNat_natCast, e61, e20]
      refine ⟨fun z => by omega, fun _ => ⟨by omega, hqb, fun hle => nx τ f1 (fun t ht => ?_), fun hgt => ⟨by omega, ?_⟩⟩⟩
      · rw [ct_f (fun z => by omega), Int.add_zero]; exact i1' t ht
      · refine WP.ro (fun hro => c_spread (F := F) hV (hA.fr f1 (fun c k hc z => by omega)) (hR.fr f1 (fun k z => by omega)) hq' (by rw [e20]; exact hgt) (by rw [f1 10 j 10 (fun z => by omega)]; exact hF) hF1 hq hro (fun υ u1 u2 => ?_))
        refine nx υ (f1.tr u1) (fun t ht => ?_)
        rw [u2 t ht, i1' t ht, w32_add, e20, ct_t ⟨hqN, hgt⟩, show (((σ 61 j i).toNat : Nat) : Int) = σ 61 j i by omega]
  refine key (σ 10 j 12).toNat 0 (by omega) τ0 f0 (fun b hb1 hb2 t ht => ?_)
  have htb := ht.1
  unfold inC at htb
  rw [e21 t.toNat (by omega), lst_first hV hL (zer t) b hb1 hb2]
  rfl
theorem c_pour {s : Int} {n : Nat} (hV : VOK V) (hA : VA σ j V) (hR : REP σ j V) (hs : isSt V s) (hF : σ 10 j 10 = F) (hF0 : 0 ≤ F) (hq : 2 ≤ q) (hn : n ≤ 400) (h : ∀ τ, FR (fun c i k => (c = 20 ∨ c = 21 ∨ (c = 1 ∧ k = 0)) ∧ i = 0) σ τ → τ 1 0 0 ≠ 0 → (∀ t : Nat, isSt V (t : Int) → τ 20 0 t = if F = 0 then (if (t : Int) = s then 1000000000 else 0) else itF V F q (fun t => if (t : Int) = s then 1000000000 else 0) n t) → Q (.inl none) τ) : WP mX0_pour 0 [vR 1 0, vR 2 j, vI s, vI (n : Int), vI q, vU, vU] [] σ Q := by
  have hsb := st_bd hV hs
  refine b_X0_pour_0 (c_fill (by omega) rfl rfl (by omega) rfl ?_)
  show WP mX0_pour 8 [vR 1 0, vR 2 j, vI s, vI (n : Int), vI q, vU, vU] [] _ Q
  have f0 : FR (fun c i _ => c = 20 ∧ i = 0) σ (upR σ 20 0 0 (al 20) (fun _ => 0)) := FR.rf.uR (fun k _ _ => ⟨rfl, rfl⟩)
  have e20 : ∀ k : Nat, k < 1024 → (upR σ 20 0 0 (al 20) (fun _ => 0)) 20 0 k = 0 := fun k hk => by
    unfold upR
    rw [if_pos ⟨rfl, rfl, by omega, by show k < 0 + 1024; omega⟩]
  generalize (upR σ 20 0 0 (al 20) (fun _ => 0)) = τ0 at *
  have f1 : FR (fun c i k => (c = 20 ∨ c = 21 ∨ (c = 1 ∧ k = 0)) ∧ i = 0) σ (up (up τ0 20 0 s.toNat 1000000000) 1 0 0 1) := ((f0.wk (fun c i j z => by omega)).u (by omega)).u (by omega)
  have e1 : (up (up τ0 20 0 s.toNat 1000000000) 1 0 0 1) 1 0 0 = 1 := up_s _ _ _ _ _
  have i0 : ∀ t : Nat, isSt V (t : Int) → (up (up τ0 20 0 s.toNat 1000000000) 1 0 0 1) 20 0 t = if (t : Int) = s then 1000000000 else 0 := fun t ht => by
    have htb := st_bd hV ht
    rw [up_c (by omega)]
    by_cases e : (t : Int) = s
    · rw [if_pos e, show s.toNat = t by omega, up_s]
    · rw [if_neg e, up_j (by omega)]; exact e20 t (by omega)
  refine b_X0_pour_8 ?_
  rw [show τ0 10 j 10 = F by rw [f0 10 j 10 (fun z => by omega)]; exact hF]
  generalize (up (up τ0 20 0 s.toNat 1000000000) 1 0 0 1) = τ1 at *
  have e1' : ∀ τ, FR (fun c i _ => (c = 20 ∨ c = 21) ∧ i = 0) τ1 τ → τ 1 0 0 ≠ 0 := fun τ f => by rw [f 1 0 0 (fun z => by omega), e1]; omega
  refine ⟨hsb, fun hle => ?_, fun hgt => ?_⟩
  · have hF00 : F = 0 := by omega
    have fin := h τ1 f1 (by rw [e1]; omega) (fun t ht => by rw [if_pos hF00]; exact i0 t ht)
    exact b_X0_pour_41 ⟨fun _ => fin, fun _ => ⟨fun _ => fin, fun z => absurd rfl z⟩⟩
  · have key : ∀ r i : Nat, r + i = n → ∀ (τ : St) (x : Int), FR (fun c i _ => (c = 20 ∨ c = 21) ∧ i = 0) τ1 τ → (∀ t : Nat, isSt V (t : Int) → τ 20 0 t = itF V F q (fun t => if (t : Int) = s then 1000000000 else 0) i t) → (x = 0 → ∀ t : Nat, isSt V (t : Int) → τ 20 0 t = phi V F q (τ 20 0) (t : Int)) → WP mX0_pour 41 [vR 1 0, vR 2 j, vU, vI (n : Int), vI q, vI x, vI (i : Int)] [] τ Q := by
      intro r
      induction r with
      | zero =>
        intro i hi τ x f2 i1 i2
        refine b_X0_pour_41 ⟨fun _ => h τ (f1.tr (f2.wk (fun c i j z => by omega))) (e1' τ f2) (fun t ht => ?_), fun z => by omega⟩
        rw [if_neg (by omega), i1 t ht, show i = n by omega]
      | succ r ih =>
        intro i hi τ x f2 i1 i2
        have F2 : FR (fun c i k => (c = 20 ∨ c = 21 ∨ (c = 1 ∧ k = 0)) ∧ i = 0) σ τ := f1.tr (f2.wk (fun c i j z => by omega))
        refine b_X0_pour_41 ⟨fun z => by omega, fun _ => ⟨fun hx => h τ F2 (e1' τ f2) (fun t ht => ?_), fun hx => ?_⟩⟩
        · rw [if_neg (by omega)]
          have := itF_fix i1 (i2 hx) (r + 1) t ht
          rw [show i + (r + 1) = n by omega] at this
          exact this
        · refine c_flowOnce (F := F) hV (hA.fr F2 (fun c k hc z => by omega)) (hR.fr F2 (fun k z => by omega)) (by rw [F2 10 j 10 (fun z => by omega)]; exact hF) (by omega) hq (fun υ b u1 u2 u3 u4 => ?_)
          show WP mX0_pour 59 [vR 1 0, vR 2 j, vU, vI (n : Int), vI q, vU, vI (i : Int)] [vI b] υ Q
          refine b_X0_pour_59 ⟨by unfold in32; omega, ih (i + 1) (by omega) υ b (f2.tr u1) (fun t ht => ?_) (fun hb t ht => ?_)⟩
          · rw [u2 t ht]
            exact phi_cg i1
          · have h4 := u4 hb
            rw [u2 t ht]
            exact phi_cg (fun s' hs' => by rw [u2 s' hs']; exact h4 s' hs')
    exact key n 0 (by omega) τ1 1 FR.rf i0 (fun z => by omega)
end Flow2
