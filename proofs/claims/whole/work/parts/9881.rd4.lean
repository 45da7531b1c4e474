/-! ===== the class' reader: meets, a clause ===== -/
section Rd4
variable {σ τ : St} {Q : Res → St → Prop} {I : TXT} {s : Nat} {D : PSt} {k : Int} {pl : Nat}
theorem DRc.sme {p q : Nat} (h : DRc σ D) (hp : p < 10) (hq : q < 10) (hm : ∀ j, j < 10 → 0 ≤ me D.1 j ∧ me D.1 j < 1024) (hne : p ≠ q) : DRc (up (up σ 56 2 p (sadd (σ 56 2 p) q)) 56 2 q (sadd (σ 56 2 q) p)) ((D.1.1, D.1.2.1, D.1.2.2.1, me2 D.1.2.2.2.1 p q, D.1.2.2.2.2), D.2) := by
  obtain ⟨⟨a0, a1, a2, a3, a4⟩, b1, b2, b3, b4, c1, c2, c3, c4⟩ := h
  refine ⟨⟨by simp [up]; exact a0, by simp [up]; exact a1, by simp [up]; exact a2, by simp [up]; exact a3, by simp [up]; exact a4⟩, fun j hj => by simp [up]; exact b1 j hj, fun j hj => by simp [up]; exact b2 j hj, fun j hj => ?_, fun j hj => by simp [up]; exact b4 j hj, by simp [up]; exact c1, by simpa [up] using c2, by simpa [up] using c3, by simp [up]; exact c4⟩
  show _ = me2 D.1.2.2.2.1 p q j
  unfold me2
  by_cases e : j = q
  · rw [e, up_s, fu_s, b3 q hq]; rfl
  · rw [up_j e, fu_n e]
    by_cases e2 : j = p
    · rw [e2, up_s, fu_s, b3 p hp]; rfl
    · rw [up_j e2, fu_n e2]; exact b3 j hj
theorem m22D {i : Int} (hi : 0 ≤ i) (hd : DEd σ I k pl) (h : Q (.inl none) σ) : WP mX2_readMeets 22 [vR 3 0, vI i, vU, vU] [] σ Q := b_X2_readMeets_22 ⟨fun _ => h, fun _ => ⟨fun _ => h, fun z => absurd (hd.1.symm.trans z) hd.2.1⟩⟩
theorem m126D {i : Int} (hi : 0 ≤ i ∧ i < 700) (hd : DEd σ I k pl) (h : Q (.inl none) σ) : WP mX2_readMeets 126 [vR 3 0, vI i, vU, vU] [] σ Q := b_X2_readMeets_126 ⟨fun _ => ⟨by unfold in32; omega, m22D (by omega) hd h⟩, fun _ => h⟩
theorem m92D {i x y : Int} (hi : 0 ≤ i ∧ i < 700) (hx : 0 ≤ x ∧ x < 10) (hy : 0 ≤ y ∧ y < 10) (hd : DEd σ I k pl) (h : ∀ τ, FR rcP σ τ → DEd τ I k pl → Q (.inl none) τ) : WP mX2_readMeets 92 [vR 3 0, vI i, vI x, vI y] [] σ Q := by
  refine b_X2_readMeets_92 ⟨hx, hx, hy, hy, c_ntD ((hd.w (by omega)).w (by omega)) ?_⟩
  show WP mX2_readMeets 126 [vR 3 0, vI i, vU, vU] [] _ Q
  exact m126D hi ((hd.w (by omega)).w (by omega)) (h _ ((FR.rf.u (by unfold rcP; omega)).u (by unfold rcP; omega)) ((hd.w (by omega)).w (by omega)))
theorem m65D {i x y : Int} (hi : 0 ≤ i ∧ i < 700) (hx : 0 ≤ x ∧ x < 10) (hy : 0 ≤ y ∧ y < 10) (hd : DEd σ I k pl) (h : ∀ τ, FR rcP σ τ → DEd τ I k pl → Q (.inl none) τ) : WP mX2_readMeets 65 [vR 3 0, vI i, vI x, vU] [vI y] σ Q :=
  b_X2_readMeets_65 ⟨fun _ => c_failD hd (m92D hi hx hy hd h), fun _ => ⟨hx, fun _ => m92D hi hx hy hd h, fun _ => c_failD hd (m92D hi hx hy hd h)⟩⟩
theorem m50D {i x : Int} (hi : 0 ≤ i ∧ i < 700) (hx : 0 ≤ x ∧ x < 10) (hd : DEd σ I k pl) (h : ∀ τ, FR rcP σ τ → DEd τ I k pl → Q (.inl none) τ) : WP mX2_readMeets 50 [vR 3 0, vI i, vU, vU] [vI x] σ Q := by
  have hb := hd.2.2.2.2.2.1
  exact b_X2_readMeets_50 ⟨by unfold in32; omega, c_nextWD hd (m65D hi hx ⟨by omega, by omega⟩ hd h)⟩
theorem c_mt : ∀ (f : Nat) {i : Int} {s : Nat} {D : PSt} {σ : St}, LV σ I s D → DOK D → I.1 < s + f → 0 ≤ i → i < s → (∀ τ, FR rcP σ τ → RC τ I (bindR (qMt I f D s) (fin_ I)) → Q (.inl none) τ) → WP mX2_readMeets 22 [vR 3 0, vI i, vU, vU] [] σ Q := by
  intro f
  induction f with
  | zero => intro i s D σ hL hD hf; have := hL.2.2.1; omega
  | succ f ih =>
    intro i s D σ hL hD hf hi0 his h
    have hpe := hD.1
    have hL7 := hL.2.1.2.1
    have hsL := hL.2.2.1
    have e0 : σ 10 2 0 = pe D.1 := hL.2.2.2.2.1.1
    refine b_X2_readMeets_22 ?_
    rw [e0]
    refine ⟨fun z => by omega, fun _ => ⟨fun z => absurd hL.1 z, fun _ => ⟨by unfold in32; omega, c_numW hL hD (fun en l1 l2 => ?_) (fun τ k en f1 hd => ?_)⟩⟩⟩
    · show WP mX2_readMeets 50 [vR 3 0, vI i, vU, vU] [vI _] σ Q
      have eq1 : qMt I (f + 1) D s = _ := en _
      refine b_X2_readMeets_50 ?_
      rw [e0]
      refine ⟨by unfold in32; omega, c_nextW hL hD (fun τ f1 L2 en2 l3 l4 => ?_) (fun τ k en2 f1 hd => ?_)⟩
      · show WP mX2_readMeets 65 [vR 3 0, vI i, vI _, vU] [vI _] τ Q
        rw [en2] at eq1
        have hsl2 : nx I s < I.1 := by
          by_cases q : nx I s < I.1
          · exact q
          · exfalso
            have hz : tK I (nx I s) = 0 := Classical.byContradiction fun z => q (tK_lt z)
            have := en2 (fun _ => .inr (7, 0))
            rw [num_1 (by omega)] at this
            cases this
        have hss : s < nx I s := nx_gt (by
          by_cases q : s < I.1
          · exact q
          · exfalso
            have hz : tK I s = 0 := Classical.byContradiction fun z => q (tK_lt z)
            have := en (fun _ => .inr (7, 0))
            rw [num_1 (by omega)] at this
            cases this)
        have b2 := nx_gt hsl2
        have hmb := hD.2.2.2.2.2.2.2.1
        generalize tN I s = p at *
        generalize tN I (nx I s) = q at *
        have em : τ 56 2 p.toNat = me D.1 p.toNat := L2.2.2.2.2.2.2.2.1 _ (by omega)
        have em2 : τ 56 2 q.toNat = me D.1 q.toNat := L2.2.2.2.2.2.2.2.1 _ (by omega)
        have m1 := hmb p.toNat (by omega)
        have m2 := hmb q.toNat (by omega)
        have w1 := band_ne (m := me D.1 p.toNat) (q := q) m1.1 m1.2 l3 (by omega)
        have w0 := band_eq0 (m := me D.1 p.toNat) (q := q) m1.1 m1.2 l3 (by omega)
        have dead : (p = q ∨ tbit (me D.1 p.toNat) q.toNat = true) → WP mX2_fail 0 [vR 3 0, vI 3] [] τ (CT mX2_readMeets 92 [vR 3 0, vI i, vI p, vI q] [] Q) := fun hy => by
          rw [if_pos hy] at eq1
          refine c_fail L2 hD (by omega) (fun υ f2 hd => ?_)
          show WP mX2_readMeets 92 [vR 3 0, vI i, vI p, vI q] [] υ Q
          exact m92D ⟨hi0, by omega⟩ ⟨by omega, by omega⟩ ⟨by omega, by omega⟩ hd (fun ω f3 hd2 => h ω ((f1.tr f2).tr f3) (by rw [eq1]; exact hd2))
        refine b_X2_readMeets_65 ?_
        rw [em, w1, w0]
        refine ⟨fun z => dead (Or.inl z), fun z => ⟨⟨by omega, by omega⟩, fun z2 => ?_, fun z2 => dead (Or.inr z2)⟩⟩
        rw [if_neg (fun y => y.elim z z2)] at eq1
        refine b_X2_readMeets_92 ?_
        have hpq : p.toNat ≠ q.toNat := by omega
        rw [up_j (show q.toNat ≠ p.toNat by omega), em, em2, bor1 (m := me D.1 p.toNat) (q := q) m1.1 (by omega) l3 (by omega), bor1 (m := me D.1 q.toNat) (q := p) m2.1 (by omega) l1 (by omega)]
        have R3 := L2.2.2.2.2.sme (p := p.toNat) (q := q.toNat) (by omega) (by omega) hmb hpq
        rw [em, em2] at R3
        have L3 : LV (up (up τ 56 2 p.toNat (sadd (me D.1 p.toNat) q.toNat)) 56 2 q.toNat (sadd (me D.1 q.toNat) p.toNat)) I (nx I s) ((D.1.1, D.1.2.1, D.1.2.2.1, me2 D.1.2.2.2.1 p.toNat q.toNat, D.1.2.2.2.2), D.2) := by
          obtain ⟨d1, d4, d5, ⟨k1, k2, k3, k4⟩, -⟩ := L2
          exact ⟨by simp [up, d1], d4.rc ((FR.rf.u (by unfold rcP; omega)).u (by unfold rcP; omega)), d5, ⟨by simp [up, k1], by simp [up, k2], by simp [up, k3], fun z => by simp [up, k4 z]⟩, R3⟩
        have hD3 : DOK ((D.1.1, D.1.2.1, D.1.2.2.1, me2 D.1.2.2.2.1 p.toNat q.toNat, D.1.2.2.2.2), D.2) := by
          obtain ⟨a1, a2, a3, a4, a5, a6, a7, a8, a9, a10, a11, a12, a13⟩ := hD
          exact ⟨a1, a2, a3, a4, a5, a6, a7, me2_bd a8 (by omega) (by omega), a9, a10, a11, a12, a13⟩
        refine ⟨⟨by omega, by omega⟩, ⟨by omega, by omega⟩, ⟨by omega, by omega⟩, ⟨by omega, by omega⟩, c_nt L3 (fun υ f2 L4 => ?_)⟩
        show WP mX2_readMeets 126 [vR 3 0, vI i, vU, vU] [] υ Q
        have F4 : FR rcP σ υ := ((f1.u (by unfold rcP; omega)).u (by unfold rcP; omega)).tr f2
        have e5 : υ 3 0 5 = tK I (nx I (nx I s)) := L4.2.2.2.1.2.2.1
        refine b_X2_readMeets_126 ?_
        rw [e5]
        refine ⟨fun z3 => ⟨by unfold in32; omega, ?_⟩, fun z3 => h υ F4 ?_⟩
        · by_cases z4 : tK I (nx I (nx I s)) = 2
          · rw [if_pos z4] at eq1
            exact ih L4 hD3 (by omega) (by omega) (by omega) (fun ω f5 hr => h ω (F4.tr f5) (by rw [eq1]; exact hr))
          · rw [if_neg z4] at eq1
            have e6 : bindR (qMt I (f + 1) D s) (fin_ I) = .inr (1, nx I (nx I s)) := by
              rw [eq1]; show fin_ I _ _ = _; unfold fin_; rw [if_neg z3]
            have e7 : υ 10 2 0 = pe D.1 := L4.2.2.2.2.1.1
            refine b_X2_readMeets_22 ?_
            rw [e7]
            refine ⟨fun z5 => by omega, fun _ => ⟨fun z5 => absurd L4.1 z5, fun _ => ⟨by unfold in32; omega, c_numW L4 hD3 (fun en5 _ _ => ?_) (fun ω k en5 f5 hd => ?_)⟩⟩⟩
            · have := en5 (fun _ => .inr (7, 0))
              rw [num_1 z4] at this
              cases this
            · show WP mX2_readMeets 50 [vR 3 0, vI (i + 1), vU, vU] [vI 0] ω Q
              have hk := en5 (fun _ => .inr (7, 0))
              rw [num_1 z4] at hk
              cases hk
              exact m50D ⟨by omega, by omega⟩ ⟨by omega, by omega⟩ hd (fun ω2 f6 hd2 => h ω2 ((F4.tr f5).tr f6) (by rw [e6]; exact hd2))
        · rw [if_neg (by omega)] at eq1
          rw [eq1]
          show RC υ I (fin_ I _ _)
          unfold fin_
          rw [if_pos z3]
          exact L4
      · show WP mX2_readMeets 65 [vR 3 0, vI i, vI _, vU] [vI 0] τ Q
        rw [en2] at eq1
        exact m65D ⟨hi0, by omega⟩ ⟨by omega, by omega⟩ ⟨by omega, by omega⟩ hd (fun υ f2 hd2 => h υ (f1.tr f2) (by rw [eq1]; exact hd2))
    · show WP mX2_readMeets 50 [vR 3 0, vI i, vU, vU] [vI 0] τ Q
      have eq1 : qMt I (f + 1) D s = .inr (k, s) := en _
      exact m50D ⟨hi0, by omega⟩ ⟨by omega, by omega⟩ hd (fun υ f2 hd2 => h υ (f1.tr f2) (by rw [eq1]; exact hd2))
theorem c_meets (hL : LV σ I s D) (hD : DOK D) (hs : s < I.1) (h : ∀ τ, FR rcP σ τ → RC τ I (bindR (qMeets I D s) (fin_ I)) → Q (.inl none) τ) : WP mX2_readMeets 0 [vR 3 0, vU, vU, vU] [] σ Q := by
  have tb := told_b hD hL.2.2.2.2
  have hm := hL.2.2.2.2.2.2.2.2.2.1
  have f4 := hD.2.2.2.2.2.2.2.2.2.1 4
  have hLa : LV (up σ 3 0 11 1) I s (D.1, fu D.2.1 5 1, D.2.2) := hL.w (by omega) hL.2.2.2.2.f11
  have hLb : LV (up (up σ 3 0 11 1) 3 0 8 (bor (σ 3 0 8) 16)) I s (D.1, fu (fu D.2.1 5 1) 4 1, D.2.2) := hLa.fl (D := (D.1, fu D.2.1 5 1, D.2.2)) (fu_n (by omega)) (by
    rw [tb.2.2.2.2.2, fu_s, fu_n (by omega), fu_n (by omega), fu_n (by omega), fu_n (by omega), fu_n (by omega), fu_n (by omega), hm]
    show _ = _ + 8 * sy D.1 + 16 * 1
    omega)
  have hDb : DOK (D.1, fu (fu D.2.1 5 1) 4 1, D.2.2) := dokf (D := (D.1, fu D.2.1 5 1, D.2.2)) (dok11 hD) (by omega)
  have b1 := nx_gt hs
  have hL7 := hL.2.1.2.1
  refine b_X2_readMeets_0 (c_nt hLb (fun τ f L2 => ?_))
  show WP mX2_readMeets 20 [vR 3 0, vU, vU, vU] [] τ Q
  exact b_X2_readMeets_20 (c_mt 702 L2 hDb (by omega) (by omega) (by omega) (fun υ f2 hr => h υ (((FR.rf.u (by unfold rcP; omega)).u (by unfold rcP; omega)).tr (f.tr f2)) hr))
theorem c_tailC {X : Rr} (hR : RP σ I X) (hX : ∀ D e, X = .inl (D, e) → DOK D) (h : ∀ τ, FR rcP σ τ → RC τ I (bindR X (fin_ I)) → Q (.inl none) τ) : WP mX2_readClause 141 [vR 3 0] [] σ Q := by
  match X, hR, hX, h with
  | .inl (D, e), ⟨s, es, hL⟩, hX, h =>
    have hD := hX D e rfl
    refine b_X2_readClause_141 (c_nt hL (fun τ f L2 => ?_))
    rw [es] at L2
    show WP mX2_readClause 145 [vR 3 0] [] τ Q
    have e5 : τ 3 0 5 = tK I e := L2.2.2.2.1.2.2.1
    refine b_X2_readClause_145 (b_X2_endClause_0 ?_)
    rw [e5]
    refine ⟨fun z => b_X2_endClause_13 ?_, fun z => c_fail L2 hD (by omega) (fun υ f2 hd => ?_)⟩
    · show WP mX2_readClause 149 [vU] [] τ Q
      refine b_X2_readClause_149 (h τ f ?_)
      show RC τ I (fin_ I D e)
      unfold fin_
      rw [if_pos z]
      exact L2
    · show WP mX2_endClause 13 [vU] [] υ _
      refine b_X2_endClause_13 ?_
      show WP mX2_readClause 149 [vU] [] υ Q
      refine b_X2_readClause_149 (h υ (f.tr f2) ?_)
      show RC υ I (fin_ I D e)
      unfold fin_
      rw [if_neg z]
      exact hd
  | .inr (k, pl), hd, hX, h =>
    have hd : DEd σ I k pl := hd
    refine b_X2_readClause_141 (c_ntD hd ?_)
    show WP mX2_readClause 145 [vR 3 0] [] σ Q
    have out : WP mX2_readClause 149 [vU] [] σ Q := b_X2_readClause_149 (h σ FR.rf hd)
    exact b_X2_readClause_145 (b_X2_endClause_0 ⟨fun _ => b_X2_endClause_13 out, fun _ => c_failD hd (b_X2_endClause_13 out)⟩)
theorem DRc.sst (h : DRc σ D) (h0 : sy D.1 = 0) : DRc (up (up σ 3 0 8 (σ 3 0 8 + 8)) 10 2 3 1) ((fu D.1.1 3 1, D.1.2), D.2) := by
  obtain ⟨⟨a0, a1, a2, a3, a4⟩, b1, b2, b3, b4, c1, c2, c3, c4⟩ := h
  refine ⟨⟨by simp [up]; exact a0, by simp [up]; exact a1, by simp [up]; exact a2, by simp [up, sy, fu], by simp [up]; exact a4⟩, fun j hj => by simp [up]; exact b1 j hj, fun j hj => by simp [up]; exact b2 j hj, fun j hj => by simp [up]; exact b3 j hj, fun j hj => by simp [up]; exact b4 j hj, ?_, by simpa [up] using c2, by simpa [up] using c3, by simp [up]; exact c4⟩
  have e : (up (up σ 3 0 8 (σ 3 0 8 + 8)) 10 2 3 1) 3 0 8 = σ 3 0 8 + 8 := by simp [up]
  rw [e, c1, h0]
  show _ = D.2.1 0 + 2 * D.2.1 1 + 4 * D.2.1 2 + 8 * (fu D.1.1 3 1 3) + 16 * D.2.1 4
  rw [fu_s]
  omega
theorem c_clause (hL : LV σ I s D) (hD : DOK D) (hs : s < I.1) (h : ∀ τ, FR rcP σ τ → RC τ I (qC I D s) → Q (.inl none) τ) : WP mX2_readClause 0 [vR 3 0] [] σ Q := by
  have hT := hL.2.1
  have hsl := hL.2.2.1
  have hK := hL.2.2.2.1
  have go : ∀ {X : Rr}, qC0 I D s = X → (∀ D' e, X = .inl (D', e) → DOK D') → ∀ τ, FR rcP σ τ → RP τ I X → WP mX2_readClause 141 [vR 3 0] [] τ Q := fun {X} eX hX τ f hr => c_tailC hr hX (fun υ f2 h2 => h υ (f.tr f2) (by unfold qC; rw [eX]; exact h2))
  refine b_X2_readClause_0 (c_isWord (by omega) hT hK hsl ?_)
  show WP mX2_readClause 6 [vR 3 0] [vI _] σ Q
  refine b_X2_readClause_6 ⟨fun z0 => c_isWord (by omega) hT hK hsl ?_, fun z => c_people hL hD (fun τ f hr => ?_)⟩
  · show WP mX2_readClause 22 [vR 3 0] [vI _] σ Q
    have n0 := b2_eq z0
    refine b_X2_readClause_22 ⟨fun z1 => c_isWord (by omega) hT hK hsl ?_, fun z => c_habits hL hD (fun τ f hr => ?_)⟩
    · show WP mX2_readClause 38 [vR 3 0] [vI _] σ Q
      have n1 := b2_eq z1
      refine b_X2_readClause_38 ⟨fun z2 => c_isWord (by omega) hT hK hsl ?_, fun z => c_worth hL hD (fun τ f hr => ?_)⟩
      · show WP mX2_readClause 54 [vR 3 0] [vI _] σ Q
        have n2 := b2_eq z2
        refine b_X2_readClause_54 ⟨fun z3 => c_isWord (by omega) hT hK hsl ?_, fun z => c_meets hL hD hs (fun τ f hr => ?_)⟩
        · show WP mX2_readClause 68 [vR 3 0] [vI _] σ Q
          have n3 := b2_eq z3
          refine b_X2_readClause_68 ⟨fun z4 => c_isWord (by omega) hT hK hsl ?_, fun z => c_answer hL hD (fun τ f hr => ?_)⟩
          · show WP mX2_readClause 84 [vR 3 0] [vI _] σ Q
            have n4 := b2_eq z4
            refine b_X2_readClause_84 ⟨fun z5 => c_isWord (by omega) hT hK hsl ?_, fun z => ?_⟩
            · show WP mX2_readClause 110 [vR 3 0] [vI _] σ Q
              have n5 := b2_eq z5
              refine b_X2_readClause_110 ⟨fun z6 => c_isWord (by omega) hT hK hsl ?_, fun z => c_keeps hL hD (fun τ f hr => ?_)⟩
              · show WP mX2_readClause 126 [vR 3 0] [vI _] σ Q
                have n6 := b2_eq z6
                refine b_X2_readClause_126 ⟨fun z7 => c_fail hL hD (by omega) (fun τ f hd => ?_), fun z => c_slip hL hD (fun τ f hr => ?_)⟩
                · show WP mX2_readClause 141 [vR 3 0] [] τ Q
                  have n7 := b2_eq z7
                  refine go (X := .inr (1, s)) ?_ (fun _ _ q => by cases q) τ f hd
                  unfold qC0; rw [pif_f n0, pif_f n1, pif_f n2, pif_f n3, pif_f n4, pif_f n5, pif_f n6, pif_f n7]
                · show WP mX2_readClause 133 [vR 3 0] [] τ Q
                  refine b_X2_readClause_133 (go (X := qSlip I D s) ?_ (fun _ _ q => (ok_slip hD hs q).1) τ f hr)
                  unfold qC0; rw [pif_f n0, pif_f n1, pif_f n2, pif_f n3, pif_f n4, pif_f n5, pif_f n6, pif_t (b2_ne z)]
              · show WP mX2_readClause 117 [vR 3 0] [] τ Q
                refine b_X2_readClause_117 (go (X := qKeeps I D s) ?_ (fun _ _ q => (ok_keeps hD hs q).1) τ f hr)
                unfold qC0; rw [pif_f n0, pif_f n1, pif_f n2, pif_f n3, pif_f n4, pif_f n5, pif_t (b2_ne z)]
            · have tb := told_b hD hL.2.2.2.2
              have e0 : qC0 I D s = qStays I D s := by unfold qC0; rw [pif_f n0, pif_f n1, pif_f n2, pif_f n3, pif_f n4, pif_t (b2_ne z)]
              refine c_tell (b := sy D.1) hL hD tb.1.2.2.2.1 (fun hn => ?_) (fun hy τ f hd => ?_)
              · show WP mX2_readClause 93 [vR 3 0] [] _ Q
                rw [tb.2.2.2.2.1 hn]
                have h0 : sy D.1 = 0 := hD.2.2.2.2.1.resolve_right hn
                refine b_X2_readClause_93 (go e0 (fun _ _ q => (ok_stays hD hs q).1) _ ((FR.rf.u (by unfold rcP; omega)).u (by unfold rcP; omega)) ?_)
                unfold qStays
                rw [if_neg hn]
                refine ⟨s, rfl, ?_⟩
                obtain ⟨d1, d4, d5, ⟨k1, k2, k3, k4⟩, hR⟩ := hL
                exact ⟨by simp [up, d1], d4.rc ((FR.rf.u (by unfold rcP; omega)).u (by unfold rcP; omega)), d5, ⟨by simp [up, k1], by simp [up, k2], by simp [up, k3], fun z => by simp [up, k4 z]⟩, hR.sst h0⟩
              · show WP mX2_readClause 93 [vR 3 0] [] τ Q
                refine b_X2_readClause_93 (go e0 (fun _ _ q => (ok_stays hD hs q).1) _ (f.u (by unfold rcP; omega)) ?_)
                unfold qStays
                rw [if_pos hy]
                exact hd.w (by omega)
          · show WP mX2_readClause 75 [vR 3 0] [] τ Q
            refine b_X2_readClause_75 (go (X := qAnswer I D s) ?_ (fun _ _ q => (ok_answer hD hs q).1) τ f hr)
            unfold qC0; rw [pif_f n0, pif_f n1, pif_f n2, pif_f n3, pif_t (b2_ne z)]
        · show WP mX2_readClause 61 [vU] [] τ Q
          refine b_X2_readClause_61 (h τ f ?_)
          unfold qC qC0; rw [pif_f n0, pif_f n1, pif_f n2, pif_t (b2_ne z)]; exact hr
      · show WP mX2_readClause 45 [vR 3 0] [] τ Q
        refine b_X2_readClause_45 (go (X := qWorth I D s) ?_ (fun _ _ q => (ok_worth hD hs q).1) τ f hr)
        unfold qC0; rw [pif_f n0, pif_f n1, pif_t (b2_ne z)]
    · show WP mX2_readClause 29 [vR 3 0] [] τ Q
      refine b_X2_readClause_29 (go (X := qHabits I D s) ?_ (fun _ _ q => (ok_habits hD hs q).1) τ f hr)
      unfold qC0; rw [pif_f n0, pif_t (b2_ne z)]
  · show WP mX2_readClause 13 [vR 3 0] [] τ Q
    refine b_X2_readClause_13 (go (X := qPeople I D s) ?_ (fun _ _ q => (ok_people hD hs q).1) τ f hr)
    unfold qC0; rw [pif_t (b2_ne z)]
end Rd4
