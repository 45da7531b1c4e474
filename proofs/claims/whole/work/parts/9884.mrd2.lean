/-! ===== the model's reader: keeps, slip, worth, meets, answer ===== -/
section Mrd2
variable {σ τ : St} {Q : Res → St → Prop} {I : TXT} {s : Nat} {D : PSt} {k : Int} {pl : Nat}
theorem DRm.ske {p : Nat} {v : Int} (h : DRm σ D) : DRm (up σ 72 0 p v) ((D.1.1, D.1.2.1, D.1.2.2.1, D.1.2.2.2.1, fu D.1.2.2.2.2 p v), D.2) := by
  obtain ⟨⟨a0, a1, a2, a3, a4, a5, a6, a7, a8⟩, b1, b2, b3, b4, b5, b6⟩ := h
  refine ⟨⟨by simp [up]; exact a0, by simp [up]; exact a1, by simp [up]; exact a2, by simp [up]; exact a3, by simp [up]; exact a4, by simp [up]; exact a5, by simp [up]; exact a6, by simp [up]; exact a7, by simp [up]; exact a8⟩, fun j hj => by simp [up]; exact b1 j hj, fun j hj => by simp [up]; exact b2 j hj, fun j hj => by simp [up]; exact b3 j hj, fun j hj => ?_, fun j hj => by simp [up]; exact b5 j hj, fun j hj => by simp [up]; exact b6 j hj⟩
  show up σ 72 0 p v 72 0 j = fu D.1.2.2.2.2 p v j
  by_cases e : j = p
  · rw [e, up_s, fu_s]
  · rw [up_j e, fu_n e]; exact b4 j hj
theorem DRm.ssl {p : Nat} {v : Int} (h : DRm σ D) : DRm (up σ 74 0 p v) ((D.1.1, D.1.2.1, fu D.1.2.2.1 p v, D.1.2.2.2), D.2) := by
  obtain ⟨⟨a0, a1, a2, a3, a4, a5, a6, a7, a8⟩, b1, b2, b3, b4, b5, b6⟩ := h
  refine ⟨⟨by simp [up]; exact a0, by simp [up]; exact a1, by simp [up]; exact a2, by simp [up]; exact a3, by simp [up]; exact a4, by simp [up]; exact a5, by simp [up]; exact a6, by simp [up]; exact a7, by simp [up]; exact a8⟩, fun j hj => by simp [up]; exact b1 j hj, fun j hj => ?_, fun j hj => by simp [up]; exact b3 j hj, fun j hj => by simp [up]; exact b4 j hj, fun j hj => by simp [up]; exact b5 j hj, fun j hj => by simp [up]; exact b6 j hj⟩
  show up σ 74 0 p v 74 0 j = fu D.1.2.2.1 p v j
  by_cases e : j = p
  · rw [e, up_s, fu_s]
  · rw [up_j e, fu_n e]; exact b2 j hj
theorem DRm.sge {p : Nat} {v : Int} (h : DRm σ D) : DRm (up σ 68 0 p v) ((D.1.1, fu D.1.2.1 p v, D.1.2.2), D.2) := by
  obtain ⟨⟨a0, a1, a2, a3, a4, a5, a6, a7, a8⟩, b1, b2, b3, b4, b5, b6⟩ := h
  refine ⟨⟨by simp [up]; exact a0, by simp [up]; exact a1, by simp [up]; exact a2, by simp [up]; exact a3, by simp [up]; exact a4, by simp [up]; exact a5, by simp [up]; exact a6, by simp [up]; exact a7, by simp [up]; exact a8⟩, fun j hj => ?_, fun j hj => by simp [up]; exact b2 j hj, fun j hj => by simp [up]; exact b3 j hj, fun j hj => by simp [up]; exact b4 j hj, fun j hj => by simp [up]; exact b5 j hj, fun j hj => by simp [up]; exact b6 j hj⟩
  show up σ 68 0 p v 68 0 j = fu D.1.2.1 p v j
  by_cases e : j = p
  · rw [e, up_s, fu_s]
  · rw [up_j e, fu_n e]; exact b1 j hj
theorem DRm.s75 {p : Nat} (h : DRm σ D) : DRm (up σ 75 0 p 1) (D.1, D.2.1, fu D.2.2.1 p 1, D.2.2.2) := by
  obtain ⟨⟨a0, a1, a2, a3, a4, a5, a6, a7, a8⟩, b1, b2, b3, b4, b5, b6⟩ := h
  refine ⟨⟨by simp [up]; exact a0, by simp [up]; exact a1, by simp [up]; exact a2, by simp [up]; exact a3, by simp [up]; exact a4, by simp [up]; exact a5, by simp [up]; exact a6, by simp [up]; exact a7, by simp [up]; exact a8⟩, fun j hj => by simp [up]; exact b1 j hj, fun j hj => by simp [up]; exact b2 j hj, fun j hj => by simp [up]; exact b3 j hj, fun j hj => by simp [up]; exact b4 j hj, fun j hj => ?_, fun j hj => by simp [up]; exact b6 j hj⟩
  show up σ 75 0 p 1 75 0 j = fu D.2.2.1 p 1 j
  by_cases e : j = p
  · rw [e, up_s, fu_s]
  · rw [up_j e, fu_n e]; exact b5 j hj
theorem DRm.s76 {p : Nat} (h : DRm σ D) : DRm (up σ 76 0 p 1) (D.1, D.2.1, D.2.2.1, fu D.2.2.2 p 1) := by
  obtain ⟨⟨a0, a1, a2, a3, a4, a5, a6, a7, a8⟩, b1, b2, b3, b4, b5, b6⟩ := h
  refine ⟨⟨by simp [up]; exact a0, by simp [up]; exact a1, by simp [up]; exact a2, by simp [up]; exact a3, by simp [up]; exact a4, by simp [up]; exact a5, by simp [up]; exact a6, by simp [up]; exact a7, by simp [up]; exact a8⟩, fun j hj => by simp [up]; exact b1 j hj, fun j hj => by simp [up]; exact b2 j hj, fun j hj => by simp [up]; exact b3 j hj, fun j hj => by simp [up]; exact b4 j hj, fun j hj => by simp [up]; exact b5 j hj, fun j hj => ?_⟩
  show up σ 76 0 p 1 76 0 j = fu D.2.2.2 p 1 j
  by_cases e : j = p
  · rw [e, up_s, fu_s]
  · rw [up_j e, fu_n e]; exact b6 j hj
theorem DRm.sme {p q : Nat} (h : DRm σ D) (hp : p < 10) (hq : q < 10) : DRm (up (up σ 70 0 p (sadd (me D.1 p) q)) 70 0 q (sadd (me D.1 q) p)) ((D.1.1, D.1.2.1, D.1.2.2.1, me2 D.1.2.2.2.1 p q, D.1.2.2.2.2), D.2) := by
  obtain ⟨⟨a0, a1, a2, a3, a4, a5, a6, a7, a8⟩, b1, b2, b3, b4, b5, b6⟩ := h
  refine ⟨⟨by simp [up]; exact a0, by simp [up]; exact a1, by simp [up]; exact a2, by simp [up]; exact a3, by simp [up]; exact a4, by simp [up]; exact a5, by simp [up]; exact a6, by simp [up]; exact a7, by simp [up]; exact a8⟩, fun j hj => by simp [up]; exact b1 j hj, fun j hj => by simp [up]; exact b2 j hj, fun j hj => ?_, fun j hj => by simp [up]; exact b4 j hj, fun j hj => by simp [up]; exact b5 j hj, fun j hj => by simp [up]; exact b6 j hj⟩
  show _ = me2 D.1.2.2.2.1 p q j
  unfold me2
  by_cases e : j = q
  · rw [e, up_s, fu_s]; rfl
  · rw [up_j e, fu_n e]
    by_cases e2 : j = p
    · rw [e2, up_s, fu_s]; rfl
    · rw [up_j e2, fu_n e2]; exact b3 j hj
/-! the late ones: the mark 5 is set when they are called -/
theorem m_keeps (hL : LM σ I s (D.1, fu D.2.1 5 1, D.2.2)) (hD : DOK D) (h1 : ∀ τ D' e, qKeeps I D s = .inl (D', e) → FR rmP σ τ → LM τ I e D' → Q (.inl none) τ) (h2 : ∀ τ k pl, qKeeps I D s = .inr (k, pl) → FR rmP σ τ → TH τ k pl → Q (.inr (13, 0)) τ) : WP mX13_readKeeps 0 [vR 14 0, vU] [] σ Q := by
  have hpe := hD.1
  have hha := hD.2.1
  refine b_X13_readKeeps_0 (d_sc hL (fun τ f L2 => ?_))
  show WP mX13_readKeeps 4 [vR 14 0, vU] [] τ Q
  have e0 : τ 14 0 14 = pe D.1 := L2.2.2.2.1.1.1
  refine b_X13_readKeeps_4 ?_
  rw [e0]
  refine ⟨by unfold in32; omega, d_look L2 (fun en l1 l2 => ?_) (fun υ k en f2 ht => h2 υ k _ (en _) (f.tr f2) ht)⟩
  show WP mX13_readKeeps 15 [vR 14 0, vU] [vI _] τ Q
  have eq1 : qKeeps I D s = _ := en _
  have ek : τ 72 0 (tN I (nx I s)).toNat = ke D.1 (tN I (nx I s)).toNat := L2.2.2.2.1.2.2.2.2.1 _ (by omega)
  refine b_X13_readKeeps_15 ?_
  rw [ek]
  refine ⟨⟨by omega, by omega⟩, fun z => ?_, fun z => d_needY (b_X13_readKeeps_36 (d_sc L2 (fun υ f2 L3 => ?_)))⟩
  · rw [if_pos z] at eq1
    exact d_needN L2 (by omega) (fun υ f2 ht => h2 υ 3 _ eq1 (f.tr f2) ht)
  · rw [if_neg (fun q => q z)] at eq1
    show WP mX13_readKeeps 40 [vR 14 0, vI _] [] υ Q
    have e1 : υ 14 0 15 = ha D.1 := L3.2.2.2.1.1.2.1
    refine b_X13_readKeeps_40 ?_
    rw [e1]
    refine ⟨by unfold in32; omega, d_number L3 (fun ω f3 L4 en2 l3 l4 => ?_) (fun ω k en2 f3 ht => ?_)⟩
    · show WP mX13_readKeeps 56 [vU, vU] [vI _, vI _, vR 72 0] ω Q
      rw [en2] at eq1
      exact b_X13_readKeeps_56 ⟨⟨by omega, by omega⟩, h1 _ _ _ eq1 (((f.tr f2).tr f3).u (by unfold rmP; omega)) (L4.w (by omega) L4.2.2.2.1.ske)⟩
    · rw [en2] at eq1
      exact h2 ω k _ eq1 ((f.tr f2).tr f3) ht
theorem m_slip (hL : LM σ I s (D.1, fu D.2.1 5 1, D.2.2)) (hD : DOK D) (h1 : ∀ τ D' e, qSlip I D s = .inl (D', e) → FR rmP σ τ → LM τ I e D' → Q (.inl none) τ) (h2 : ∀ τ k pl, qSlip I D s = .inr (k, pl) → FR rmP σ τ → TH τ k pl → Q (.inr (13, 0)) τ) : WP mX13_readSlip 0 [vR 14 0, vU] [] σ Q := by
  have hha := hD.2.1
  have hst := hD.2.2.2.2.2.2.2.2.2.2.2.1
  refine b_X13_readSlip_0 (d_sc hL (fun τ f L2 => ?_))
  show WP mX13_readSlip 4 [vR 14 0, vU] [] τ Q
  have e0 : τ 14 0 15 = ha D.1 := L2.2.2.2.1.1.2.1
  refine b_X13_readSlip_4 ?_
  rw [e0]
  refine ⟨by unfold in32; omega, d_look L2 (fun en l1 l2 => ?_) (fun υ k en f2 ht => h2 υ k _ (en _) (f.tr f2) ht)⟩
  show WP mX13_readSlip 15 [vR 14 0, vU] [vI _] τ Q
  have eq1 : qSlip I D s = _ := en _
  have ek : τ 76 0 (tN I (nx I s)).toNat = D.2.2.2 (tN I (nx I s)).toNat := L2.2.2.2.1.2.2.2.2.2.2 _ (by omega)
  have hb := hst (tN I (nx I s)).toNat
  refine b_X13_readSlip_15 ?_
  rw [ek]
  refine ⟨⟨by omega, by omega⟩, fun z => ?_, fun z => d_needY (b_X13_readSlip_35 ⟨⟨by omega, by omega⟩, ?_⟩)⟩
  · rw [if_pos (hb.resolve_left z)] at eq1
    exact d_needN L2 (by omega) (fun υ f2 ht => h2 υ 3 _ eq1 (f.tr f2) ht)
  · rw [if_neg (fun q => by omega)] at eq1
    refine d_sc (L2.w (by omega) (L2.2.2.2.1.s76 (p := (tN I (nx I s)).toNat))) (fun υ f2 L3 => ?_)
    show WP mX13_readSlip 46 [vR 14 0, vI _] [] υ Q
    have F2 := (f.u (c := 76) (i := 0) (j := (tN I (nx I s)).toNat) (x := 1) (by unfold rmP; omega)).tr f2
    refine b_X13_readSlip_46 (d_number L3 (fun ω f3 L4 en2 l3 l4 => ?_) (fun ω k en2 f3 ht => ?_))
    · show WP mX13_readSlip 57 [vU, vU] [vI _, vI _, vR 74 0] ω Q
      rw [en2] at eq1
      exact b_X13_readSlip_57 ⟨⟨by omega, by omega⟩, h1 _ _ _ eq1 ((F2.tr f3).u (by unfold rmP; omega)) (L4.w (by omega) L4.2.2.2.1.ssl)⟩
    · rw [en2] at eq1
      exact h2 ω k _ eq1 (F2.tr f3) ht
theorem m_worth (hL : LM σ I s (D.1, fu D.2.1 5 1, D.2.2)) (hD : DOK D) (h1 : ∀ τ D' e, qWorth I D s = .inl (D', e) → FR rmP σ τ → LM τ I e D' → Q (.inl none) τ) (h2 : ∀ τ k pl, qWorth I D s = .inr (k, pl) → FR rmP σ τ → TH τ k pl → Q (.inr (13, 0)) τ) : WP mX13_readWorth 0 [vR 14 0, vU, vU] [] σ Q := by
  have hha := hD.2.1
  have hwt := hD.2.2.2.2.2.2.2.2.2.2.1
  refine b_X13_readWorth_0 (d_sc hL (fun τ f L2 => ?_))
  show WP mX13_readWorth 4 [vR 14 0, vU, vU] [] τ Q
  have e0 : τ 14 0 15 = ha D.1 := L2.2.2.2.1.1.2.1
  refine b_X13_readWorth_4 ?_
  rw [e0]
  refine ⟨by unfold in32; omega, d_number L2 (fun υ f2 L3 en l1 l2 => ?_) (fun υ k en f2 ht => h2 υ k _ (en _) (f.tr f2) ht)⟩
  show WP mX13_readWorth 15 [vR 14 0, vU, vU] [vI _] υ Q
  have eq1 : qWorth I D s = _ := en _
  have e1 : υ 14 0 15 = ha D.1 := L3.2.2.2.1.1.2.1
  refine b_X13_readWorth_15 ?_
  rw [e1]
  refine ⟨by unfold in32; omega, d_look L3 (fun en2 l3 l4 => ?_) (fun ω k en2 f3 ht => ?_)⟩
  · show WP mX13_readWorth 27 [vR 14 0, vI _, vU] [vI _] υ Q
    rw [en2] at eq1
    generalize tN I (nx I s) = i at *
    generalize tN I (nx I (nx I s)) = j at *
    have ek : υ 75 0 (4 * i + j).toNat = D.2.2.1 (4 * i + j).toNat := L3.2.2.2.1.2.2.2.2.2.1 _ (by omega)
    have hb := hwt (4 * i + j).toNat
    refine b_X13_readWorth_27 ?_
    rw [ek]
    refine ⟨by unfold in32; omega, by unfold in32; omega, ⟨by omega, by omega⟩, fun z => ?_, fun z => d_needY (b_X13_readWorth_51 (d_sc L3 (fun ω f3 L4 => ?_)))⟩
    · rw [if_pos (hb.resolve_left z)] at eq1
      exact d_needN L3 (by omega) (fun ω f3 ht => h2 ω 3 _ eq1 ((f.tr f2).tr f3) ht)
    · rw [if_neg (fun q => by omega)] at eq1
      show WP mX13_readWorth 55 [vR 14 0, vI _, vI _] [] ω Q
      have F3 := (((f.tr f2).tr f3).u (c := 75) (i := 0) (j := (4 * i + j).toNat) (x := 1) (by unfold rmP; omega))
      refine b_X13_readWorth_55 ⟨by unfold in32; omega, by unfold in32; omega, ⟨by omega, by omega⟩, by unfold in32; omega, by unfold in32; omega, d_number (L4.w (by omega) (L4.2.2.2.1.s75 (p := (4 * i + j).toNat))) (fun ω2 f4 L5 en3 l5 l6 => ?_) (fun ω2 k en3 f4 ht => ?_)⟩
      · show WP mX13_readWorth 82 [vU, vU, vU] [vI _, vI _, vR 68 0] ω2 Q
        rw [en3] at eq1
        exact b_X13_readWorth_82 ⟨⟨by omega, by omega⟩, h1 _ _ _ eq1 ((F3.tr f4).u (by unfold rmP; omega)) (L5.w (by omega) L5.2.2.2.1.sge)⟩
      · rw [en3] at eq1
        exact h2 ω2 k _ eq1 (F3.tr f4) ht
  · rw [en2] at eq1
    exact h2 ω k _ eq1 ((f.tr f2).tr f3) ht
theorem num_lt {lo hi : Int} (en : ∀ K, num I lo hi s K = K (tN I s)) : s < I.1 := by
  by_cases q : s < I.1
  · exact q
  · exfalso
    have hz : tK I s = 0 := Classical.byContradiction fun z => q (tK_lt z)
    have := en (fun _ => .inr (7, 0))
    rw [num_1 (by omega)] at this
    cases this
theorem m_mt : ∀ (f : Nat) {s : Nat} {D : PSt} {σ : St}, LM σ I s D → DOK D → I.1 < s + f → (∀ τ D' e, qMt I f D s = .inl (D', e) → FR rmP σ τ → LM τ I e D' → Q (.inl none) τ) → (∀ τ k pl, qMt I f D s = .inr (k, pl) → FR rmP σ τ → TH τ k pl → Q (.inr (13, 0)) τ) → WP mX13_readMeets 9 [vR 14 0, vU, vU] [] σ Q := by
  intro f
  induction f with
  | zero => intro s D σ hL hD hf; have := hL.2.1; omega
  | succ f ih =>
    intro s D σ hL hD hf h1 h2
    have hpe := hD.1
    have e0 : σ 14 0 14 = pe D.1 := hL.2.2.2.1.1.1
    refine b_X13_readMeets_9 ?_
    rw [e0]
    refine ⟨by unfold in32; omega, d_number hL (fun τ f1 L2 en l1 l2 => ?_) (fun τ k en f1 ht => h2 τ k _ (en _) f1 ht)⟩
    show WP mX13_readMeets 20 [vR 14 0, vU, vU] [vI _] τ Q
    have eq1 : qMt I (f + 1) D s = _ := en _
    have e1 : τ 14 0 14 = pe D.1 := L2.2.2.2.1.1.1
    refine b_X13_readMeets_20 ?_
    rw [e1]
    refine ⟨by unfold in32; omega, d_look L2 (fun en2 l3 l4 => ?_) (fun υ k en2 f2 ht => ?_)⟩
    · show WP mX13_readMeets 32 [vR 14 0, vI _, vU] [vI _] τ Q
      rw [en2] at eq1
      have b1 := nx_gt (num_lt en)
      have b2 := nx_gt (num_lt en2)
      have hmb := hD.2.2.2.2.2.2.2.1
      generalize tN I s = p at *
      generalize tN I (nx I s) = q at *
      have em : τ 70 0 p.toNat = me D.1 p.toNat := L2.2.2.2.1.2.2.2.1 _ (by omega)
      have m1 := hmb p.toNat (by omega)
      have m2 := hmb q.toNat (by omega)
      have w1 := band_ne (m := me D.1 p.toNat) (q := q) m1.1 m1.2 l3 (by omega)
      have w0 := band_eq0 (m := me D.1 p.toNat) (q := q) m1.1 m1.2 l3 (by omega)
      have dead : (p = q ∨ tbit (me D.1 p.toNat) q.toNat = true) → WP mX13_need 0 [vR 14 0, vI 0, vI 3] [] τ (CTT mX13_readMeets 61 [vR 14 0, vI p, vI q] [] Q) := fun hy => by
        rw [if_pos hy] at eq1
        exact d_needN L2 (by omega) (fun υ f2 ht => h2 υ 3 _ eq1 (f1.tr f2) ht)
      refine b_X13_readMeets_32 ?_
      rw [em, w1, w0]
      refine ⟨fun z => dead (Or.inl z), fun z => ⟨⟨by omega, by omega⟩, fun z2 => dead (Or.inr z2), fun z2 => d_needY (b_X13_readMeets_61 (d_sc L2 (fun υ f2 L3 => ?_)))⟩⟩
      rw [if_neg (fun y => y.elim z z2)] at eq1
      show WP mX13_readMeets 65 [vR 14 0, vI p, vI q] [] υ Q
      have em3 : υ 70 0 p.toNat = me D.1 p.toNat := L3.2.2.2.1.2.2.2.1 _ (by omega)
      have em4 : υ 70 0 q.toNat = me D.1 q.toNat := L3.2.2.2.1.2.2.2.1 _ (by omega)
      have e6 : υ 14 0 6 = tK I (nx I (nx I s)) := L3.2.2.1.2.2.1
      refine b_X13_readMeets_65 ?_
      rw [up_j (show q.toNat ≠ p.toNat by omega), em3, em4, bor1 (m := me D.1 p.toNat) (q := q) m1.1 (by omega) l3 (by omega), bor1 (m := me D.1 q.toNat) (q := p) m2.1 (by omega) l1 (by omega), e6]
      have F3 : FR rmP σ (up (up υ 70 0 p.toNat (sadd (me D.1 p.toNat) q.toNat)) 70 0 q.toNat (sadd (me D.1 q.toNat) p.toNat)) := ((f1.tr f2).u (by unfold rmP; omega)).u (by unfold rmP; omega)
      have L4 : LM (up (up υ 70 0 p.toNat (sadd (me D.1 p.toNat) q.toNat)) 70 0 q.toNat (sadd (me D.1 q.toNat) p.toNat)) I (nx I (nx I s)) ((D.1.1, D.1.2.1, D.1.2.2.1, me2 D.1.2.2.2.1 p.toNat q.toNat, D.1.2.2.2.2), D.2) := by
        obtain ⟨d4, d5, ⟨k1, k2, k3, k4⟩, hR, e8, e9⟩ := L3
        exact ⟨d4.fr ((FR.rf (P := rmP).u (by unfold rmP; omega)).u (by unfold rmP; omega)) (by unfold rmP; omega), d5, ⟨by simp [up, k1], by simp [up, k2], by simp [up, k3], fun z => by simp [up, k4 z]⟩, hR.sme (by omega) (by omega), by simp [up, e8], by simp [up, e9]⟩
      have hD3 : DOK ((D.1.1, D.1.2.1, D.1.2.2.1, me2 D.1.2.2.2.1 p.toNat q.toNat, D.1.2.2.2.2), D.2) := by
        obtain ⟨a1, a2, a3, a4, a5, a6, a7, a8, a9, a10, a11, a12, a13⟩ := hD
        exact ⟨a1, a2, a3, a4, a5, a6, a7, me2_bd a8 (by omega) (by omega), a9, a10, a11, a12, a13⟩
      refine ⟨⟨by omega, by omega⟩, ⟨by omega, by omega⟩, ⟨by omega, by omega⟩, ⟨by omega, by omega⟩, fun z4 => ?_, fun z4 => ?_⟩
      · rw [if_pos z4] at eq1
        exact ih L4 hD3 (by omega) (fun ω D' e q a b => h1 ω D' e (by rw [eq1]; exact q) (F3.tr a) b) (fun ω k pl q a b => h2 ω k pl (by rw [eq1]; exact q) (F3.tr a) b)
      · rw [if_neg z4] at eq1
        exact h1 _ _ _ eq1 F3 L4
    · rw [en2] at eq1
      exact h2 υ k _ eq1 (f1.tr f2) ht
theorem m_meets (hL : LM σ I s (D.1, fu D.2.1 5 1, D.2.2)) (hD : DOK D) (hs : s < I.1) (h1 : ∀ τ D' e, qMeets I D s = .inl (D', e) → FR rmP σ τ → LM τ I e D' → Q (.inl none) τ) (h2 : ∀ τ k pl, qMeets I D s = .inr (k, pl) → FR rmP σ τ → TH τ k pl → Q (.inr (13, 0)) τ) : WP mX13_readMeets 0 [vR 14 0, vU, vU] [] σ Q := by
  have hL7 := hL.1.2.1
  have b1 := nx_gt hs
  refine b_X13_readMeets_0 (d_sc hL (fun τ f L2 => ?_))
  show WP mX13_readMeets 4 [vR 14 0, vU, vU] [] τ Q
  have L3 : LM (up τ 14 0 22 1) I (nx I s) (D.1, fu (fu D.2.1 5 1) 4 1, D.2.2) := L2.w (by omega) (L2.2.2.2.1.sc (FR.rf.u ⟨rfl, rfl⟩) (by
    obtain ⟨⟨c0, c1, c2, c3, c4, c5, c6, c7, c8⟩, -⟩ := L2.2.2.2.1
    exact ⟨by simp [up]; exact c0, by simp [up]; exact c1, by simp [up]; exact c2, by simp [up]; exact c3, by simp [up, fu]; exact c4, by simp [up, fu]; exact c5, by simp [up, fu]; exact c6, by simp [up, fu], by simp [up, fu]; exact c8⟩) rfl rfl)
  have F := f.u (c := 14) (i := 0) (j := 22) (x := 1) (by unfold rmP; omega)
  have hDb : DOK (D.1, fu (fu D.2.1 5 1) 4 1, D.2.2) := dokf (D := (D.1, fu D.2.1 5 1, D.2.2)) (dok11 hD) (by omega)
  exact b_X13_readMeets_4 (m_mt 702 L3 hDb (by omega) (fun ω D' e q a b => h1 ω D' e q (F.tr a) b) (fun ω k pl q a b => h2 ω k pl q (F.tr a) b))
theorem m_answer (hL : LM σ I s D) (hD : DOK D) (h1 : ∀ τ D' e, qAnswer I D s = .inl (D', e) → FR rmP σ τ → LM τ I e D' → Q (.inl none) τ) (h2 : ∀ τ k pl, qAnswer I D s = .inr (k, pl) → FR rmP σ τ → TH τ k pl → Q (.inr (13, 0)) τ) : WP mX13_readAnswer 0 [vR 14 0, vU] [] σ Q := by
  have hf := hD.2.2.2.2.2.2.2.2.2.1
  have a6 : σ 14 0 21 = D.2.1 2 := hL.2.2.2.1.1.2.2.2.2.2.2.1
  refine b_X13_readAnswer_0 ?_
  rw [a6]
  refine ⟨fun z => d_needN hL (by omega) (fun τ f ht => h2 τ 3 s (by unfold qAnswer; rw [if_pos ((hf 2).resolve_left z)]) f ht), fun z => d_needY (b_X13_readAnswer_17 ?_)⟩
  have n0 : ¬ D.2.1 2 = 1 := by omega
  have eq1 : qAnswer I D s = _ := if_neg n0
  have L1 : LM (up σ 14 0 21 1) I s (D.1, fu D.2.1 2 1, D.2.2) := hL.w (by omega) (hL.2.2.2.1.sc (FR.rf.u ⟨rfl, rfl⟩) (by
    obtain ⟨⟨c0, c1, c2, c3, c4, c5, c6, c7, c8⟩, -⟩ := hL.2.2.2.1
    exact ⟨by simp [up]; exact c0, by simp [up]; exact c1, by simp [up]; exact c2, by simp [up]; exact c3, by simp [up, fu]; exact c4, by simp [up, fu]; exact c5, by simp [up, fu], by simp [up, fu]; exact c7, by simp [up, fu]; exact c8⟩) rfl rfl)
  have F : FR rmP σ (up σ 14 0 21 1) := FR.rf.u (by unfold rmP; omega)
  refine d_sc L1 (fun τ f L2 => ?_)
  show WP mX13_readAnswer 26 [vR 14 0, vU] [] τ Q
  have F1 := F.tr f
  have fin : ∀ v, qAnswer I D s = .inl (((fu D.1.1 2 v, D.1.2), fu D.2.1 2 1, D.2.2), nx I (nx I s)) → WP mX13_readAnswer 82 [vR 14 0, vI v] [] τ Q := fun v hq => by
    have L3 : LM (up τ 14 0 16 v) I (nx I s) ((fu D.1.1 2 v, D.1.2), fu D.2.1 2 1, D.2.2) := L2.w (by omega) (L2.2.2.2.1.sc (FR.rf.u ⟨rfl, rfl⟩) (by
      obtain ⟨⟨c0, c1, c2, c3, c4, c5, c6, c7, c8⟩, -⟩ := L2.2.2.2.1
      exact ⟨by simp [up]; exact c0, by simp [up]; exact c1, by simp [up, an, fu], by simp [up]; exact c3, by simp [up]; exact c4, by simp [up]; exact c5, by simp [up]; exact c6, by simp [up]; exact c7, by simp [up]; exact c8⟩) rfl rfl)
    refine b_X13_readAnswer_82 (d_sc L3 (fun υ f2 L4 => ?_))
    show WP mX13_readAnswer 91 [vU, vU] [] υ Q
    exact b_X13_readAnswer_91 (h1 υ _ _ hq ((F1.u (by unfold rmP; omega)).tr f2) L4)
  refine b_X13_readAnswer_26 (d_is (by omega) L2.1 L2.2.2.1 L2.2.1 ?_)
  show WP mX13_readAnswer 32 [vR 14 0, vU] [vI _] τ Q
  refine b_X13_readAnswer_32 ⟨fun z8 => d_is (by omega) L2.1 L2.2.2.1 L2.2.1 ?_, fun z8 => d_needY (fin 0 ?_)⟩
  · rw [pif_f (b2_eq z8)] at eq1
    show WP mX13_readAnswer 45 [vR 14 0, vU] [vI _] τ Q
    refine b_X13_readAnswer_45 ⟨fun z9 => d_is (by omega) L2.1 L2.2.2.1 L2.2.1 ?_, fun z9 => d_needY (fin 1 ?_)⟩
    · rw [pif_f (b2_eq z9)] at eq1
      show WP mX13_readAnswer 58 [vR 14 0, vU] [vI _] τ Q
      refine b_X13_readAnswer_58 ⟨fun z10 => ?_, fun z10 => d_needY (fin 2 ?_)⟩
      · rw [pif_f (b2_eq z10)] at eq1
        exact d_needN L2 (by omega) (fun υ f2 ht => h2 υ 1 _ eq1 (F1.tr f2) ht)
      · rw [pif_t (b2_ne z10)] at eq1; exact eq1
    · rw [pif_t (b2_ne z9)] at eq1; exact eq1
  · rw [pif_t (b2_ne z8)] at eq1; exact eq1
end Mrd2
