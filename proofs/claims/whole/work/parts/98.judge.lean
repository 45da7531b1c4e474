/-! ===== judge ===== -/
theorem b255_all : ∀ m : Fin 256, 0 ≤ band (((m.val : Nat) : Int) - 128) 255 ∧ band (((m.val : Nat) : Int) - 128) 255 ≤ 255 := by decide +kernel
theorem b255 {b : Int} (h0 : -128 ≤ b) (h1 : b ≤ 127) : 0 ≤ band b 255 ∧ band b 255 ≤ 255 := by
  have := b255_all ⟨(b + 128).toNat, by omega⟩
  simp only [] at this
  rw [show (((b + 128).toNat : Nat) : Int) - 128 = b by omega] at this
  exact this
def jp (B : Nat → Int) (k : Nat) : Int := band (B (2 * k)) 255 - 48
def jh (B : Nat → Int) (k : Nat) : Int := band (B (2 * k + 1)) 255 - 48
def jv (V : Vy) (B : Nat → Int) (k : Nat) : Prop := (0 ≤ jp B k ∧ jp B k < pe V) ∧ ke V (jp B k).toNat = -1 ∧ 0 ≤ jh B k ∧ jh B k < ha V
def jit (V : Vy) (home : Int → Int) (B : Nat → Int) (s : Int) : Nat → Wk
  | 0 => (s, 0, 0, 0, fun _ => 0)
  | k + 1 => wst V home (jit V home B s k) (jp B k).toNat (jh B k)
def JE (V : Vy) (B : Nat → Int) (m k : Nat) : Prop := k ≤ m ∧ (∀ k', k' < k → jv V B k') ∧ (k < m → ¬ jv V B k)
theorem JE.un {V : Vy} {B : Nat → Int} {m k k' : Nat} (a : JE V B m k) (b : JE V B m k') : k = k' := by
  rcases Nat.lt_trichotomy k k' with z | z | z
  · exact absurd (b.2.1 k z) (a.2.2 (by have := b.1; omega))
  · exact z
  · exact absurd (a.2.1 k' z) (b.2.2 (by have := a.1; omega))
section Judge
variable {σ τ : St} {Q : Res → St → Prop} {V : Vy} {home : Int → Int}
theorem c_follow {s : Int} {m : Nat} (hV : VOK V) (hA : VA σ 0 V) (hR : REP σ 0 V) (hhm : ∀ s, isSt V s → hm σ 0 s = home s) (hs : isSt V s) (hm60 : m ≤ 60) (hB : ∀ k, k < 700 → -128 ≤ σ 46 0 k ∧ σ 46 0 k ≤ 127) (h : ∀ τ k, FR (fun c i _ => i = 1 ∧ (c = 11 ∨ c = 62)) σ τ → τ 11 1 0 ≠ 0 → JE V (σ 46 0) m k → CW τ 1 (jit V home (σ 46 0) s k) → (τ 11 1 5 = 0 ↔ k ≠ m) → Q (.inl (some (vI (k : Nat)))) τ) : WP mX10_follow 0 [vR 11 1, vR 2 0, vI s, vR 8 0, vI (m : Int), vU, vU, vU, vU] [] σ Q := by
  have hpe := hV.pe
  have hha := hV.ha
  refine b_X10_follow_0 (c_begin hs (fun τ0 f0 w0 e0 e5 => ?_))
  show WP mX10_follow 11 [vR 11 1, vR 2 0, vU, vR 8 0, vI (m : Int), vR 10 0, vU, vU, vU] [] τ0 Q
  refine b_X10_follow_11 ?_
  have key : ∀ r k : Nat, r + k = m → ∀ τ, FR (fun c i _ => i = 1 ∧ (c = 11 ∨ c = 62)) σ τ → τ 11 1 0 ≠ 0 → τ 11 1 5 = 1 → (∀ k', k' < k → jv V (σ 46 0) k') → CW τ 1 (jit V home (σ 46 0) s k) → wbd V k (jit V home (σ 46 0) s k) → WP mX10_follow 14 [vR 11 1, vR 2 0, vU, vR 8 0, vI (m : Int), vR 10 0, vI (k : Int), vU, vU] [] τ Q := by
    intro r
    induction r with
    | zero =>
      intro k hk τ f1 i0 i5 i1 i2 i3
      have hkm : k = m := by omega
      subst hkm
      exact b_X10_follow_14 ⟨fun _ => h τ k f1 i0 ⟨by omega, i1, fun z => by omega⟩ i2 ⟨fun z => by omega, fun z => absurd rfl z⟩, fun z => by omega⟩
    | succ r ih =>
      intro k hk τ f1 i0 i5 i1 i2 i3
      have ih' := ih (k + 1) (by omega)
      have hjs : jit V home (σ 46 0) s (k + 1) = wst V home (jit V home (σ 46 0) s k) (jp (σ 46 0) k).toNat (jh (σ 46 0) k) := rfl
      rw [hjs] at ih'
      have e46 : ∀ x, τ 46 0 x = σ 46 0 x := fun x => f1 46 0 x (fun z => by omega)
      have b1 := hB (2 * k) (by omega)
      have b2' := hB (2 * k + 1) (by omega)
      have c1 := b255 b1.1 b1.2
      have c2 := b255 b2'.1 b2'.2
      have ejp : band (σ 46 0 (2 * k)) 255 - 48 = jp (σ 46 0) k := rfl
      have ejh : band (σ 46 0 (2 * k + 1)) 255 - 48 = jh (σ 46 0) k := rfl
      have hA' : VA τ 0 V := hA.fr f1 (fun c k hc z => by omega)
      have hF := hA'.2.2.1
      have bad : ¬ jv V (σ 46 0) k → Q (.inl (some (vI (k : Int)))) (up τ 11 1 5 0) := fun hn => by
        refine h _ k (f1.u (by omega)) (by rw [up_j (by omega)]; exact i0) ⟨by omega, i1, fun _ => hn⟩ ⟨?_, ?_, ?_, ?_, fun q hq => ?_⟩ ⟨fun _ => by omega, fun _ => up_s _ _ _ _ _⟩
        · rw [up_j (by omega)]; exact i2.1
        · rw [up_j (by omega)]; exact i2.2.1
        · rw [up_j (by omega)]; exact i2.2.2.1
        · rw [up_j (by omega)]; exact i2.2.2.2.1
        · rw [up_c (by omega)]; exact i2.2.2.2.2 q hq
      refine b_X10_follow_14 ?_
      rw [show (2 * (k : Int)).toNat = 2 * k by omega, show (2 * (k : Int) + 1).toNat = 2 * k + 1 by omega, e46, e46, hA'.1.pe, hA'.1.ha]
      refine ⟨fun z => by omega, fun _ => ⟨by unfold in32; omega, by omega, by unfold in32; omega, by unfold in32; omega, by unfold in32; omega, by omega, by unfold in32; omega, fun z => bad (fun w => z w.1), fun zp => ?_⟩⟩
      rw [ejp] at zp ⊢
      rw [ejh]
      rw [band_ne hF.1.1 hF.1.2 zp.1 (by omega)]
      refine ⟨fun z => bad (fun w => z ((hF.2.1 _).mpr ⟨by omega, w.2.1⟩)), fun zf => ⟨fun zh => ?_, fun z => bad (fun w => z w.2.2)⟩⟩
      have hk2 := ((hF.2.1 _).mp zf).2
      have hv : jv V (σ 46 0) k := ⟨zp, hk2, zh⟩
      obtain ⟨p, hp⟩ : ∃ p : Nat, jp (σ 46 0) k = p := ⟨(jp (σ 46 0) k).toNat, by omega⟩
      rw [hp, Int.toNat_natCast] at hk2 ih'
      rw [hp]
      refine c_step (home := home) hV hA' (hR.fr f1 (fun k z => by omega)) (fun s' hs' => by rw [← hhm s' hs']; exact f1 27 0 _ (fun z => by omega)) (show k ≤ 5000 by omega) i3 (by omega) hk2 zh i2 (fun ω o1 o2 => ?_)
      show WP mX10_follow 106 [vR 11 1, vR 2 0, vU, vR 8 0, vI (m : Int), vR 10 0, vI (k : Int), vU, vU] [] ω Q
      refine b_X10_follow_106 ⟨by unfold in32; omega, ih' ω (f1.tr (o1.wk (fun c i j z => by omega))) ?_ ?_ (fun k' hk' => ?_) o2 (i3.st hV (by omega) hk2 zh)⟩
      · rw [o1 11 1 0 (fun z => by omega)]; exact i0
      · rw [o1 11 1 5 (fun z => by omega)]; exact i5
      · by_cases e : k' = k
        · rw [e]; exact hv
        · exact i1 k' (by omega)
  exact key m 0 (by omega) τ0 (f0.wk (fun c i j z => by omega)) (by rw [e0]; omega) e5 (fun k' hk' => by omega) w0 ⟨hs, ⟨by show (0 : Int) ≤ 0; omega, by show (0 : Int) ≤ ((0 : Nat) : Int); omega⟩, ⟨by show (0 : Int) ≤ 0; omega, by show (0 : Int) ≤ 3 * ((0 : Nat) : Int); omega⟩, ⟨by show (0 : Int) ≤ 0; omega, by show (0 : Int) ≤ ((0 : Nat) : Int); omega⟩, fun q' => ⟨by show (0 : Int) ≤ 0; omega, by show (0 : Int) ≤ ((0 : Nat) : Int); omega⟩⟩
def juP (c i j : Nat) : Prop := i = 0 ∧ c = 14 ∧ (78 ≤ j ∧ j ≤ 82)
theorem d_follow {s : Int} {m : Nat} (hV : VOK V) (hT : MT σ V) (han : σ 14 0 12 = an V) (hs : isSt V s) (hm60 : m ≤ 60) (hB : ∀ k, k < 700 → -128 ≤ σ 66 0 k ∧ σ 66 0 k ≤ 127) (e78 : σ 14 0 78 = 0) (e79 : σ 14 0 79 = 0) (h : ∀ τ k, FR juP σ τ → τ 14 0 81 ≠ 0 → JE V (σ 66 0) m k → τ 14 0 80 = (jit V home (σ 66 0) s k).1 → τ 14 0 78 = (jit V home (σ 66 0) s k).2.1 → τ 14 0 79 = (jit V home (σ 66 0) s k).2.2.1 → (τ 14 0 82 = 0 ↔ k ≠ m) → Q (.inl (some (vI (k : Nat)))) τ) : WP mX13_judge 51 [vR 14 0, vU, vI (2 * (m : Int)), vI s, vI 0, vU, vU] [] σ Q := by
  have hpe := hV.pe
  have hha := hV.ha
  have fin : ∀ (τ : St) (k : Nat), FR juP σ τ → JE V (σ 66 0) m k → τ 14 0 78 = (jit V home (σ 66 0) s k).2.1 → τ 14 0 79 = (jit V home (σ 66 0) s k).2.2.1 → WP mX13_judge 190 [vR 14 0, vU, vI (2 * (m : Int)), vI (jit V home (σ 66 0) s k).1, vI (k : Int), vU, vU] [] τ Q := fun τ k f1 hJ i1 i2 => by
    have hk := hJ.1
    have go : ∀ v : Int, (v = 0 ↔ k ≠ m) → Q (.inl (some (vI (k : Int)))) (up (up (up τ 14 0 80 (jit V home (σ 66 0) s k).1) 14 0 82 v) 14 0 81 1) := fun v hv => by
      refine h _ k (((f1.u (by unfold juP; omega)).u (by unfold juP; omega)).u (by unfold juP; omega)) (by rw [up_s]; omega) hJ ?_ ?_ ?_ ?_
      · rw [up_j (by omega), up_j (by omega), up_s]
      · rw [up_j (by omega), up_j (by omega), up_j (by omega)]; exact i1
      · rw [up_j (by omega), up_j (by omega), up_j (by omega)]; exact i2
      · rw [up_j (by omega), up_s]; exact hv
    exact b_X13_judge_190 ⟨by unfold in32; omega, fun z => go 0 ⟨fun _ => by omega, fun _ => rfl⟩, fun z => go 1 ⟨fun z => by omega, fun z => by omega⟩⟩
  have key : ∀ r k : Nat, r + k = m → ∀ τ, FR juP σ τ → (∀ k', k' < k → jv V (σ 66 0) k') → τ 14 0 78 = (jit V home (σ 66 0) s k).2.1 → τ 14 0 79 = (jit V home (σ 66 0) s k).2.2.1 → wbd V k (jit V home (σ 66 0) s k) → WP mX13_judge 51 [vR 14 0, vU, vI (2 * (m : Int)), vI (jit V home (σ 66 0) s k).1, vI (k : Int), vU, vU] [] τ Q := by
    intro r
    induction r with
    | zero =>
      intro k hk τ f1 i1 i2 i3 i4
      exact b_X13_judge_51 ⟨by unfold in32; omega, fun _ => fin τ k f1 ⟨by omega, i1, fun z => by omega⟩ i2 i3, fun z => by omega⟩
    | succ r ih =>
      intro k hk τ f1 i1 i2 i3 i4
      have ih' := ih (k + 1) (by omega)
      have hjs : jit V home (σ 66 0) s (k + 1) = wst V home (jit V home (σ 66 0) s k) (jp (σ 66 0) k).toNat (jh (σ 66 0) k) := rfl
      rw [hjs] at ih'
      have bad : ¬ jv V (σ 66 0) k → WP mX13_judge 190 [vR 14 0, vU, vI (2 * (m : Int)), vI (jit V home (σ 66 0) s k).1, vI (k : Int), vU, vU] [] τ Q := fun hn => fin τ k f1 ⟨by omega, i1, fun _ => hn⟩ i2 i3
      generalize jit V home (σ 66 0) s k = w at *
      have e66 : ∀ x, τ 66 0 x = σ 66 0 x := fun x => f1 66 0 x (fun z => by unfold juP at z; omega)
      have b1 := hB (2 * k) (by omega)
      have b2' := hB (2 * k + 1) (by omega)
      have c1 := b255 b1.1 b1.2
      have c2 := b255 b2'.1 b2'.2
      have ejp : band (σ 66 0 (2 * k)) 255 - 48 = jp (σ 66 0) k := rfl
      have ejh : band (σ 66 0 (2 * k + 1)) 255 - 48 = jh (σ 66 0) k := rfl
      have hT' : MT τ V := hT.fr f1 (fun c j hc z => by unfold juP at z; omega)
      have e12 : τ 14 0 12 = an V := by rw [f1 14 0 12 (fun z => by unfold juP at z; omega)]; exact han
      refine b_X13_judge_51 ?_
      rw [show (2 * (k : Int)).toNat = 2 * k by omega, show (2 * (k : Int) + 1).toNat = 2 * k + 1 by omega, e66, e66, hT'.1, hT'.2.1, e12]
      refine ⟨by unfold in32; omega, fun z => by omega, fun _ => ⟨by unfold in32; omega, by omega, by unfold in32; omega, by unfold in32; omega, by unfold in32; omega, by omega, by unfold in32; omega, by unfold in64; omega, fun z => bad (fun w => z ⟨w.1.1, by have := w.1.2; rw [← ejp] at this; omega⟩), fun zp => ?_⟩⟩
      rw [ejp] at zp ⊢
      rw [ejh]
      obtain ⟨p, hp⟩ : ∃ p : Nat, jp (σ 66 0) k = p := ⟨(jp (σ 66 0) k).toNat, by omega⟩
      rw [hp, Int.toNat_natCast] at ih'
      rw [hp, Int.toNat_natCast, hT'.2.2.2.2.2.2.1 p (by omega)]
      refine ⟨by omega, fun z => bad (fun w => z (by have := w.2.1; rw [hp, Int.toNat_natCast] at this; exact this)), fun hk2 => ⟨by unfold in64; omega, fun zh => ?_, fun z => bad (fun w => z ⟨w.2.2.1, by have := w.2.2.2; omega⟩)⟩⟩
      have hv : jv V (σ 66 0) k := ⟨⟨by omega, by omega⟩, by rw [hp, Int.toNat_natCast]; exact hk2, zh.1, by omega⟩
      have zh' : 0 ≤ jh (σ 66 0) k ∧ jh (σ 66 0) k < ha V := ⟨zh.1, by omega⟩
      generalize jh (σ 66 0) k = y at *
      obtain ⟨w1, w2, w3, w4, w5⟩ := i4
      have hsb := st_bd hV w1
      have hpw := pw_pos hV p
      have hb1 := hab_bd hV w.1 p
      have hb2 := ans_bd hV w.1 (p := p) (by omega)
      have hsl := hV.sl y.toNat (by omega)
      have hwi := isSt_wi hV w1 (p := p) (by omega) hk2 zh'.1 zh'.2
      have hwb := st_bd hV hwi
      have eW : w.1 + (y - w.1 / ha V ^ p % ha V) * ha V ^ p = wi V w.1 p y := rfl
      have eH : w.1 / ha V ^ p % ha V = hab V w.1 p := rfl
      have vs : ∀ k', k' < k + 1 → jv V (σ 66 0) k' := fun k' hk' => by
        by_cases e : k' = k
        · rw [e]; exact hv
        · exact i1 k' (by omega)
      have wb : wbd V (k + 1) (wst V home w p y) := wbd.st hV ⟨w1, w2, w3, w4, w5⟩ (by omega) hk2 zh'
      refine d_answersOf hV hT' hsb.1 (by omega) ?_
      show WP mX13_judge 140 [vR 14 0, vU, vI (2 * (m : Int)), vI w.1, vI (k : Int), vI (p : Int), vI y] [vI (ans V w.1 p)] τ Q
      have sd : 0 ≤ (p : Int) ∧ (p : Int) < 11 ∧ 0 ≤ w.1 ∧ 0 < ha V ^ p ∧ 0 ≤ w.1 / ha V ^ p ∧ 0 < ha V ∧ in32 (y - hab V w.1 p) ∧ 0 ≤ (p : Int) ∧ (p : Int) < 11 ∧ in32 ((y - hab V w.1 p) * ha V ^ p) ∧ in32 (wi V w.1 p y) := ⟨by omega, by omega, hsb.1, hpw, Int.ediv_nonneg hsb.1 (Int.le_of_lt hpw), by omega, by unfold in32; omega, by omega, by omega, by unfold wi at hwb; unfold in32; omega, by unfold in32; omega⟩
      refine b_X13_judge_140 ?_
      rw [Int.toNat_natCast, hT'.2.2.2.2.2.2.2.1 p (by omega), hT'.2.1, eW, eH, band_ne hb2.1 (by omega) zh'.1 (by omega), band_eq0 hb2.1 (by omega) zh'.1 (by omega), i2, i3, hT'.2.2.2.2.1 y.toNat (by omega)]
      refine ⟨fun z => ⟨sd, by unfold in32; omega, ih' τ f1 vs ?_ ?_ wb⟩, fun z => ⟨by unfold in32; omega, by omega, by unfold in32; omega, sd, by unfold in32; omega, ih' _ ((f1.u (by unfold juP; omega)).u (by unfold juP; omega)) vs ?_ ?_ wb⟩⟩
      · rw [i2]; show w.2.1 = (if tbit (ans V w.1 p) y.toNat = true then w.2.1 else w.2.1 + 1); rw [if_pos z]
      · rw [i3]; show w.2.2.1 = (if tbit (ans V w.1 p) y.toNat = true then w.2.2.1 else w.2.2.1 + sl V y.toNat); rw [if_pos z]
      · rw [up_j (by omega), up_s]; show w.2.1 + 1 = (if tbit (ans V w.1 p) y.toNat = true then w.2.1 else w.2.1 + 1); rw [if_neg z]
      · rw [up_s]; show w.2.2.1 + sl V y.toNat = (if tbit (ans V w.1 p) y.toNat = true then w.2.2.1 else w.2.2.1 + sl V y.toNat); rw [if_neg z]
  exact key m 0 (by omega) σ FR.rf (fun k' hk' => by omega) e78 e79 ⟨hs, ⟨by show (0 : Int) ≤ 0; omega, by show (0 : Int) ≤ ((0 : Nat) : Int); omega⟩, ⟨by show (0 : Int) ≤ 0; omega, by show (0 : Int) ≤ 3 * ((0 : Nat) : Int); omega⟩, ⟨by show (0 : Int) ≤ 0; omega, by show (0 : Int) ≤ ((0 : Nat) : Int); omega⟩, fun q' => ⟨by show (0 : Int) ≤ 0; omega, by show (0 : Int) ≤ ((0 : Nat) : Int); omega⟩⟩
end Judge
