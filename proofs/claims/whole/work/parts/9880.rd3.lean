/-! ===== the class' reader: keeps, slip, worth, answer ===== -/
section Rd3
variable {σ τ : St} {Q : Res → St → Prop} {I : TXT} {s : Nat} {D : PSt} {k : Int} {pl : Nat}
theorem DRc.ske {p : Nat} {v : Int} (h : DRc σ D) : DRc (up σ 57 2 p v) ((D.1.1, D.1.2.1, D.1.2.2.1, D.1.2.2.2.1, fu D.1.2.2.2.2 p v), D.2) := by
  obtain ⟨⟨a0, a1, a2, a3, a4⟩, b1, b2, b3, b4, c1, c2, c3, c4⟩ := h
  refine ⟨⟨by simp [up]; exact a0, by simp [up]; exact a1, by simp [up]; exact a2, by simp [up]; exact a3, by simp [up]; exact a4⟩, fun j hj => by simp [up]; exact b1 j hj, fun j hj => by simp [up]; exact b2 j hj, fun j hj => by simp [up]; exact b3 j hj, fun j hj => ?_, by simp [up]; exact c1, by simpa [up] using c2, by simpa [up] using c3, by simp [up]; exact c4⟩
  show up σ 57 2 p v 57 2 j = fu D.1.2.2.2.2 p v j
  by_cases e : j = p
  · rw [e, up_s, fu_s]
  · rw [up_j e, fu_n e]; exact b4 j hj
theorem DRc.ssl {p : Nat} {v : Int} (h : DRc σ D) : DRc (up σ 55 2 p v) ((D.1.1, D.1.2.1, fu D.1.2.2.1 p v, D.1.2.2.2), D.2) := by
  obtain ⟨⟨a0, a1, a2, a3, a4⟩, b1, b2, b3, b4, c1, c2, c3, c4⟩ := h
  refine ⟨⟨by simp [up]; exact a0, by simp [up]; exact a1, by simp [up]; exact a2, by simp [up]; exact a3, by simp [up]; exact a4⟩, fun j hj => by simp [up]; exact b1 j hj, fun j hj => ?_, fun j hj => by simp [up]; exact b3 j hj, fun j hj => by simp [up]; exact b4 j hj, by simp [up]; exact c1, by simpa [up] using c2, by simpa [up] using c3, by simp [up]; exact c4⟩
  show up σ 55 2 p v 55 2 j = fu D.1.2.2.1 p v j
  by_cases e : j = p
  · rw [e, up_s, fu_s]
  · rw [up_j e, fu_n e]; exact b2 j hj
theorem DRc.sge {p : Nat} {v : Int} (h : DRc σ D) : DRc (up σ 54 2 p v) ((D.1.1, fu D.1.2.1 p v, D.1.2.2), D.2) := by
  obtain ⟨⟨a0, a1, a2, a3, a4⟩, b1, b2, b3, b4, c1, c2, c3, c4⟩ := h
  refine ⟨⟨by simp [up]; exact a0, by simp [up]; exact a1, by simp [up]; exact a2, by simp [up]; exact a3, by simp [up]; exact a4⟩, fun j hj => ?_, fun j hj => by simp [up]; exact b2 j hj, fun j hj => by simp [up]; exact b3 j hj, fun j hj => by simp [up]; exact b4 j hj, by simp [up]; exact c1, by simpa [up] using c2, by simpa [up] using c3, by simp [up]; exact c4⟩
  show up σ 54 2 p v 54 2 j = fu D.1.2.1 p v j
  by_cases e : j = p
  · rw [e, up_s, fu_s]
  · rw [up_j e, fu_n e]; exact b1 j hj
theorem DRc.s9 {p : Nat} (h : DRc σ D) (hp : p < 16) : DRc (up σ 3 0 9 (sadd (σ 3 0 9) p)) (D.1, D.2.1, fu D.2.2.1 p 1, D.2.2.2) := by
  obtain ⟨⟨a0, a1, a2, a3, a4⟩, b1, b2, b3, b4, c1, ⟨c2, c2'⟩, c3, c4⟩ := h
  refine ⟨⟨by simp [up]; exact a0, by simp [up]; exact a1, by simp [up]; exact a2, by simp [up]; exact a3, by simp [up]; exact a4⟩, fun j hj => by simp [up]; exact b1 j hj, fun j hj => by simp [up]; exact b2 j hj, fun j hj => by simp [up]; exact b3 j hj, fun j hj => by simp [up]; exact b4 j hj, by simp [up]; exact c1, ?_, by simpa [up] using c3, by simp [up]; exact c4⟩
  rw [up_s]
  refine ⟨sadd_bd c2.2 hp, fun j hj => ?_⟩
  rw [sadd_bit]
  show _ ↔ fu D.2.2.1 p 1 j = 1
  by_cases e : j = p
  · rw [e, fu_s]; simp
  · rw [fu_n e, c2' j hj]
    exact ⟨fun z => z.resolve_right e, fun z => Or.inl z⟩
theorem DRc.s10 {p : Nat} (h : DRc σ D) (hp : p < 4) : DRc (up σ 3 0 10 (sadd (σ 3 0 10) p)) (D.1, D.2.1, D.2.2.1, fu D.2.2.2 p 1) := by
  obtain ⟨⟨a0, a1, a2, a3, a4⟩, b1, b2, b3, b4, c1, c2, ⟨c3, c3'⟩, c4⟩ := h
  refine ⟨⟨by simp [up]; exact a0, by simp [up]; exact a1, by simp [up]; exact a2, by simp [up]; exact a3, by simp [up]; exact a4⟩, fun j hj => by simp [up]; exact b1 j hj, fun j hj => by simp [up]; exact b2 j hj, fun j hj => by simp [up]; exact b3 j hj, fun j hj => by simp [up]; exact b4 j hj, by simp [up]; exact c1, by simpa [up] using c2, ?_, by simp [up]; exact c4⟩
  rw [up_s]
  refine ⟨sadd_bd c3.2 hp, fun j hj => ?_⟩
  rw [sadd_bit]
  show _ ↔ fu D.2.2.2 p 1 j = 1
  by_cases e : j = p
  · rw [e, fu_s]; simp
  · rw [fu_n e, c3' j hj]
    exact ⟨fun z => z.resolve_right e, fun z => Or.inl z⟩
theorem DRc.san {v : Int} (h : DRc σ D) : DRc (up σ 10 2 2 v) ((fu D.1.1 2 v, D.1.2), D.2) := by
  obtain ⟨⟨a0, a1, a2, a3, a4⟩, b1, b2, b3, b4, c1, c2, c3, c4⟩ := h
  exact ⟨⟨by simp [up]; exact a0, by simp [up]; exact a1, by simp [up, an, fu], by simp [up]; exact a3, by simp [up]; exact a4⟩, fun j hj => by simp [up]; exact b1 j hj, fun j hj => by simp [up]; exact b2 j hj, fun j hj => by simp [up]; exact b3 j hj, fun j hj => by simp [up]; exact b4 j hj, by simp [up]; exact c1, by simpa [up] using c2, by simpa [up] using c3, by simp [up]; exact c4⟩
/-! keeps -/
theorem dK38 {x : Int} (hx : 0 ≤ x ∧ x < 10) (hd : DEd σ I k pl) (h : ∀ τ, FR rcP σ τ → DEd τ I k pl → Q (.inl none) τ) : WP mX2_readKeeps 38 [vR 3 0, vI x] [] σ Q := by
  have hb := hd.2.2.2.2.2.2
  refine b_X2_readKeeps_38 ⟨by unfold in32; omega, c_nextWD hd ?_⟩
  show WP mX2_readKeeps 60 [vU, vU] [vI 0, vI x, vR 57 2] σ Q
  exact b_X2_readKeeps_60 ⟨hx, h _ (FR.rf.u (by unfold rcP; omega)) (hd.w (by omega))⟩
theorem dK19 (hd : DEd σ I k pl) (h : ∀ τ, FR rcP σ τ → DEd τ I k pl → Q (.inl none) τ) : WP mX2_readKeeps 19 [vR 3 0, vU] [vI 0] σ Q :=
  b_X2_readKeeps_19 ⟨⟨by omega, by omega⟩, fun _ => dK38 ⟨by omega, by omega⟩ hd h, fun _ => c_failD hd (dK38 ⟨by omega, by omega⟩ hd h)⟩
theorem c_keeps (hL : LV σ I s D) (hD : DOK D) (h : ∀ τ, FR rcP σ τ → RP τ I (qKeeps I D s) → Q (.inl none) τ) : WP mX2_readKeeps 0 [vR 3 0, vU] [] σ Q := by
  have hpe := hD.1
  have hha := hD.2.1
  have hF : FR rcP σ (up σ 3 0 11 1) := FR.rf.u (by unfold rcP; omega)
  have hL1 : LV (up σ 3 0 11 1) I s (D.1, fu D.2.1 5 1, D.2.2) := hL.w (by omega) hL.2.2.2.2.f11
  have hD1 := dok11 hD
  have e0 : σ 10 2 0 = pe D.1 := hL.2.2.2.2.1.1
  refine b_X2_readKeeps_0 ?_
  rw [e0]
  refine ⟨by unfold in32; omega, c_nextW hL1 hD1 (fun τ f L2 en l1 l2 => ?_) (fun τ k en f hd => ?_)⟩
  · show WP mX2_readKeeps 19 [vR 3 0, vU] [vI _] τ Q
    have eq1 : qKeeps I D s = _ := en _
    have ek : τ 57 2 (tN I (nx I s)).toNat = ke D.1 (tN I (nx I s)).toNat := L2.2.2.2.2.2.2.2.2.1 _ (by omega)
    refine b_X2_readKeeps_19 ?_
    rw [ek]
    refine ⟨⟨by omega, by omega⟩, fun z => ?_, fun z => c_fail L2 hD1 (by omega) (fun υ f2 hd => ?_)⟩
    · rw [if_neg (fun q => q z)] at eq1
      have e1 : τ 10 2 1 = ha D.1 := L2.2.2.2.2.1.2.1
      refine b_X2_readKeeps_38 ?_
      rw [e1]
      refine ⟨by unfold in32; omega, c_nextW L2 hD1 (fun υ f2 L3 en2 l3 l4 => ?_) (fun υ k en2 f2 hd => ?_)⟩
      · show WP mX2_readKeeps 60 [vU, vU] [vI _, vI _, vR 57 2] υ Q
        rw [en2] at eq1
        refine b_X2_readKeeps_60 ⟨⟨by omega, by omega⟩, h _ (((hF.tr f).tr f2).u (by unfold rcP; omega)) ?_⟩
        rw [eq1]
        exact ⟨nx I (nx I s), rfl, L3.w (by omega) L3.2.2.2.2.ske⟩
      · show WP mX2_readKeeps 60 [vU, vU] [vI 0, vI _, vR 57 2] υ Q
        rw [en2] at eq1
        refine b_X2_readKeeps_60 ⟨⟨by omega, by omega⟩, h _ (((hF.tr f).tr f2).u (by unfold rcP; omega)) ?_⟩
        rw [eq1]
        exact hd.w (by omega)
    · show WP mX2_readKeeps 38 [vR 3 0, vI _] [] υ Q
      rw [if_pos z] at eq1
      exact dK38 ⟨by omega, by omega⟩ hd (fun ω f3 hd2 => h ω (((hF.tr f).tr f2).tr f3) (by rw [eq1]; exact hd2))
  · show WP mX2_readKeeps 19 [vR 3 0, vU] [vI 0] τ Q
    have eq1 : qKeeps I D s = .inr (k, nx I s) := en _
    exact dK19 hd (fun ω f3 hd2 => h ω ((hF.tr f).tr f3) (by rw [eq1]; exact hd2))
/-! slip -/
theorem dS36 {x : Int} (hx : 0 ≤ x ∧ x < 4) (hd : DEd σ I k pl) (h : ∀ τ, FR rcP σ τ → DEd τ I k pl → Q (.inl none) τ) : WP mX2_readSlip 36 [vR 3 0, vI x] [] σ Q := by
  refine b_X2_readSlip_36 (c_nextWD (hd.w (by omega)) ?_)
  show WP mX2_readSlip 62 [vU, vU] [vI 1, vI x, vR 55 2] _ Q
  exact b_X2_readSlip_62 ⟨hx, h _ ((FR.rf.u (by unfold rcP; omega)).u (by unfold rcP; omega)) ((hd.w (by omega)).w (by omega))⟩
theorem dS19 (hd : DEd σ I k pl) (h : ∀ τ, FR rcP σ τ → DEd τ I k pl → Q (.inl none) τ) : WP mX2_readSlip 19 [vR 3 0, vU] [vI 0] σ Q :=
  b_X2_readSlip_19 ⟨fun _ => dS36 ⟨by omega, by omega⟩ hd h, fun _ => c_failD hd (dS36 ⟨by omega, by omega⟩ hd h)⟩
theorem c_slip (hL : LV σ I s D) (hD : DOK D) (h : ∀ τ, FR rcP σ τ → RP τ I (qSlip I D s) → Q (.inl none) τ) : WP mX2_readSlip 0 [vR 3 0, vU] [] σ Q := by
  have hha := hD.2.1
  have hF : FR rcP σ (up σ 3 0 11 1) := FR.rf.u (by unfold rcP; omega)
  have hL1 : LV (up σ 3 0 11 1) I s (D.1, fu D.2.1 5 1, D.2.2) := hL.w (by omega) hL.2.2.2.2.f11
  have hD1 := dok11 hD
  have e0 : σ 10 2 1 = ha D.1 := hL.2.2.2.2.1.2.1
  refine b_X2_readSlip_0 ?_
  rw [e0]
  refine ⟨by unfold in32; omega, c_nextW hL1 hD1 (fun τ f L2 en l1 l2 => ?_) (fun τ k en f hd => ?_)⟩
  · show WP mX2_readSlip 19 [vR 3 0, vU] [vI _] τ Q
    have eq1 : qSlip I D s = _ := en _
    obtain ⟨c3, c3'⟩ := L2.2.2.2.2.2.2.2.2.2.2.2.1
    have ek := c3' (tN I (nx I s)).toNat (by omega)
    have w1 := wbit c3.1 (by omega) l1 (by omega)
    have w0 := wbit0 c3.1 (by omega) l1 (by omega)
    refine b_X2_readSlip_19 ?_
    rw [w1, w0, ek]
    refine ⟨fun z => ?_, fun z => c_fail L2 hD1 (by omega) (fun υ f2 hd => ?_)⟩
    · rw [if_neg z] at eq1
      have wb := wbor (n := 4) c3.1 c3.2 l1 (by omega) (by omega)
      refine b_X2_readSlip_36 ?_
      rw [wb.1]
      have L3 : LV (up τ 3 0 10 (sadd (τ 3 0 10) (tN I (nx I s)).toNat)) I (nx I s) (D.1, fu D.2.1 5 1, D.2.2.1, fu D.2.2.2 (tN I (nx I s)).toNat 1) := L2.w (by omega) (L2.2.2.2.2.s10 (by omega))
      have hD3 : DOK (D.1, fu D.2.1 5 1, D.2.2.1, fu D.2.2.2 (tN I (nx I s)).toNat 1) := by
        obtain ⟨a1, a2, a3, a4, a5, a6, a7, a8, a9, a10, a11, a12, a13⟩ := hD1
        exact ⟨a1, a2, a3, a4, a5, a6, a7, a8, a9, a10, a11, fu01 a12, a13⟩
      have f' : FR rcP σ (up τ 3 0 10 (sadd (τ 3 0 10) (tN I (nx I s)).toNat)) := (hF.tr f).u (by unfold rcP; omega)
      refine c_nextW L3 hD3 (fun υ f2 L4 en2 l3 l4 => ?_) (fun υ k en2 f2 hd => ?_)
      · show WP mX2_readSlip 62 [vU, vU] [vI _, vI _, vR 55 2] υ Q
        rw [en2] at eq1
        refine b_X2_readSlip_62 ⟨⟨by omega, by omega⟩, h _ ((f'.tr f2).u (by unfold rcP; omega)) ?_⟩
        rw [eq1]
        exact ⟨nx I (nx I s), rfl, L4.w (by omega) L4.2.2.2.2.ssl⟩
      · show WP mX2_readSlip 62 [vU, vU] [vI 1, vI _, vR 55 2] υ Q
        rw [en2] at eq1
        refine b_X2_readSlip_62 ⟨⟨by omega, by omega⟩, h _ ((f'.tr f2).u (by unfold rcP; omega)) ?_⟩
        rw [eq1]
        exact hd.w (by omega)
    · show WP mX2_readSlip 36 [vR 3 0, vI _] [] υ Q
      rw [if_pos z] at eq1
      exact dS36 ⟨by omega, by omega⟩ hd (fun ω f3 hd2 => h ω (((hF.tr f).tr f2).tr f3) (by rw [eq1]; exact hd2))
  · show WP mX2_readSlip 19 [vR 3 0, vU] [vI 0] τ Q
    have eq1 : qSlip I D s = .inr (k, nx I s) := en _
    exact dS19 hd (fun ω f3 hd2 => h ω ((hF.tr f).tr f3) (by rw [eq1]; exact hd2))
/-! worth -/
theorem dW57 {x : Int} (hx : 0 ≤ x ∧ x < 16) (hd : DEd σ I k pl) (h : ∀ τ, FR rcP σ τ → DEd τ I k pl → Q (.inl none) τ) : WP mX2_readWorth 57 [vR 3 0, vU, vU, vI x] [] σ Q := by
  refine b_X2_readWorth_57 (c_nextWD (hd.w (by omega)) ?_)
  show WP mX2_readWorth 84 [vU, vU, vU, vU] [vI 0, vI x, vR 54 2] _ Q
  exact b_X2_readWorth_84 ⟨hx, h _ ((FR.rf.u (by unfold rcP; omega)).u (by unfold rcP; omega)) ((hd.w (by omega)).w (by omega))⟩
theorem dW34 {x y : Int} (hx : 0 ≤ x ∧ x < 4) (hy : 0 ≤ y ∧ y < 4) (hd : DEd σ I k pl) (h : ∀ τ, FR rcP σ τ → DEd τ I k pl → Q (.inl none) τ) : WP mX2_readWorth 34 [vR 3 0, vI x, vU, vU] [vI y] σ Q :=
  b_X2_readWorth_34 ⟨by unfold in32; omega, by unfold in32; omega, fun _ => dW57 ⟨by omega, by omega⟩ hd h, fun _ => c_failD hd (dW57 ⟨by omega, by omega⟩ hd h)⟩
theorem dW19 (hd : DEd σ I k pl) (h : ∀ τ, FR rcP σ τ → DEd τ I k pl → Q (.inl none) τ) : WP mX2_readWorth 19 [vR 3 0, vU, vU, vU] [vI 0] σ Q := by
  have hb := hd.2.2.2.2.2.2
  exact b_X2_readWorth_19 ⟨by unfold in32; omega, c_nextWD hd (dW34 ⟨by omega, by omega⟩ ⟨by omega, by omega⟩ hd h)⟩
theorem c_worth (hL : LV σ I s D) (hD : DOK D) (h : ∀ τ, FR rcP σ τ → RP τ I (qWorth I D s) → Q (.inl none) τ) : WP mX2_readWorth 0 [vR 3 0, vU, vU, vU] [] σ Q := by
  have hha := hD.2.1
  have hF : FR rcP σ (up σ 3 0 11 1) := FR.rf.u (by unfold rcP; omega)
  have hL1 : LV (up σ 3 0 11 1) I s (D.1, fu D.2.1 5 1, D.2.2) := hL.w (by omega) hL.2.2.2.2.f11
  have hD1 := dok11 hD
  have e0 : σ 10 2 1 = ha D.1 := hL.2.2.2.2.1.2.1
  refine b_X2_readWorth_0 ?_
  rw [e0]
  refine ⟨by unfold in32; omega, c_nextW hL1 hD1 (fun τ f L2 en l1 l2 => ?_) (fun τ k en f hd => ?_)⟩
  · show WP mX2_readWorth 19 [vR 3 0, vU, vU, vU] [vI _] τ Q
    have eq1 : qWorth I D s = _ := en _
    have e1 : τ 10 2 1 = ha D.1 := L2.2.2.2.2.1.2.1
    refine b_X2_readWorth_19 ?_
    rw [e1]
    refine ⟨by unfold in32; omega, c_nextW L2 hD1 (fun υ f2 L3 en2 l3 l4 => ?_) (fun υ k en2 f2 hd => ?_)⟩
    · show WP mX2_readWorth 34 [vR 3 0, vI _, vU, vU] [vI _] υ Q
      rw [en2] at eq1
      have F2 := (hF.tr f).tr f2
      generalize tN I (nx I s) = i at *
      generalize tN I (nx I (nx I s)) = j at *
      obtain ⟨c3, c3'⟩ := L3.2.2.2.2.2.2.2.2.2.2.1
      have ek := c3' (4 * i + j).toNat (by omega)
      have w1 := wbit (q := 4 * i + j) c3.1 (by omega) (by omega) (by omega)
      have w0 := wbit0 (q := 4 * i + j) c3.1 (by omega) (by omega) (by omega)
      refine b_X2_readWorth_34 ?_
      rw [show i * 4 + j = 4 * i + j by omega, w1, w0, ek]
      refine ⟨by unfold in32; omega, by unfold in32; omega, fun z => ?_, fun z => c_fail L3 hD1 (by omega) (fun ω f3 hd => ?_)⟩
      · rw [if_neg z] at eq1
        have wb := wbor (q := 4 * i + j) (n := 16) c3.1 c3.2 (by omega) (by omega) (by omega)
        refine b_X2_readWorth_57 ?_
        rw [wb.1]
        have L4 : LV (up υ 3 0 9 (sadd (υ 3 0 9) (4 * i + j).toNat)) I (nx I (nx I s)) (D.1, fu D.2.1 5 1, fu D.2.2.1 (4 * i + j).toNat 1, D.2.2.2) := L3.w (by omega) (L3.2.2.2.2.s9 (by omega))
        have hD3 : DOK (D.1, fu D.2.1 5 1, fu D.2.2.1 (4 * i + j).toNat 1, D.2.2.2) := by
          obtain ⟨a1, a2, a3, a4, a5, a6, a7, a8, a9, a10, a11, a12, a13⟩ := hD1
          exact ⟨a1, a2, a3, a4, a5, a6, a7, a8, a9, a10, fu01 a11, a12, a13⟩
        have f' : FR rcP σ (up υ 3 0 9 (sadd (υ 3 0 9) (4 * i + j).toNat)) := F2.u (by unfold rcP; omega)
        refine c_nextW L4 hD3 (fun ω f3 L5 en3 l5 l6 => ?_) (fun ω k en3 f3 hd => ?_)
        · show WP mX2_readWorth 84 [vU, vU, vU, vU] [vI _, vI _, vR 54 2] ω Q
          rw [en3] at eq1
          refine b_X2_readWorth_84 ⟨⟨by omega, by omega⟩, h _ ((f'.tr f3).u (by unfold rcP; omega)) ?_⟩
          rw [eq1]
          exact ⟨nx I (nx I (nx I s)), rfl, L5.w (by omega) L5.2.2.2.2.sge⟩
        · show WP mX2_readWorth 84 [vU, vU, vU, vU] [vI 0, vI _, vR 54 2] ω Q
          rw [en3] at eq1
          refine b_X2_readWorth_84 ⟨⟨by omega, by omega⟩, h _ ((f'.tr f3).u (by unfold rcP; omega)) ?_⟩
          rw [eq1]
          exact hd.w (by omega)
      · show WP mX2_readWorth 57 [vR 3 0, vU, vU, vI _] [] ω Q
        rw [if_pos z] at eq1
        exact dW57 ⟨by omega, by omega⟩ hd (fun ω2 f4 hd2 => h ω2 ((F2.tr f3).tr f4) (by rw [eq1]; exact hd2))
    · show WP mX2_readWorth 34 [vR 3 0, vI _, vU, vU] [vI 0] υ Q
      rw [en2] at eq1
      exact dW34 ⟨by omega, by omega⟩ ⟨by omega, by omega⟩ hd (fun ω f3 hd2 => h ω (((hF.tr f).tr f2).tr f3) (by rw [eq1]; exact hd2))
  · show WP mX2_readWorth 19 [vR 3 0, vU, vU, vU] [vI 0] τ Q
    have eq1 : qWorth I D s = .inr (k, nx I s) := en _
    exact dW19 hd (fun ω f3 hd2 => h ω ((hF.tr f).tr f3) (by rw [eq1]; exact hd2))
/-! answer -/
theorem dA9 (hd : DEd σ I k pl) (h : ∀ τ, FR rcP σ τ → DEd τ I k pl → Q (.inl none) τ) : WP mX2_readAnswer 9 [vR 3 0] [] σ Q := by
  obtain ⟨s1, hs1, hK⟩ := hd.2.2.2.2.1
  have hT := hd.2.2.2.1
  have out : ∀ v, WP mX2_readAnswer 74 [vU] [] (up σ 10 2 2 v) Q := fun v => b_X2_readAnswer_74 (h _ (FR.rf.u (by unfold rcP; omega)) (hd.w (by omega)))
  refine b_X2_readAnswer_9 (c_isWord (s := s1) (by omega) hT hK hs1 ?_)
  show WP mX2_readAnswer 15 [vR 3 0] [vI _] σ Q
  refine b_X2_readAnswer_15 ⟨fun _ => c_isWord (s := s1) (by omega) hT hK hs1 ?_, fun _ => out 0⟩
  show WP mX2_readAnswer 35 [vR 3 0] [vI _] σ Q
  refine b_X2_readAnswer_35 ⟨fun _ => c_isWord (s := s1) (by omega) hT hK hs1 ?_, fun _ => out 1⟩
  show WP mX2_readAnswer 55 [vR 3 0] [vI _] σ Q
  exact b_X2_readAnswer_55 ⟨fun _ => c_failD hd (b_X2_readAnswer_74 (h σ FR.rf hd)), fun _ => out 2⟩
theorem c_answer (hL : LV σ I s D) (hD : DOK D) (h : ∀ τ, FR rcP σ τ → RP τ I (qAnswer I D s) → Q (.inl none) τ) : WP mX2_readAnswer 0 [vR 3 0] [] σ Q := by
  have tb := told_b hD hL.2.2.2.2
  have hm := hL.2.2.2.2.2.2.2.2.2.1
  have hF : FR rcP σ (up σ 3 0 8 (bor (σ 3 0 8) 4)) := FR.rf.u (by unfold rcP; omega)
  refine b_X2_readAnswer_0 (c_tell (b := D.2.1 2) hL hD tb.1.2.2.1 (fun hn => ?_) (fun hy τ f hd => ?_))
  · show WP mX2_readAnswer 5 [vR 3 0] [] _ Q
    have hL1 : LV (up σ 3 0 8 (bor (σ 3 0 8) 4)) I s (D.1, fu D.2.1 2 1, D.2.2) := hL.fl (fu_n (by omega)) (by
      have f0 := (hD.2.2.2.2.2.2.2.2.2.1 2).resolve_right hn
      rw [tb.2.2.2.1 hn, fu_s, fu_n (by omega), fu_n (by omega), fu_n (by omega), hm]; omega)
    have eq1 : qAnswer I D s = _ := if_neg hn
    refine b_X2_readAnswer_5 (c_nt hL1 (fun τ f L2 => ?_))
    show WP mX2_readAnswer 9 [vR 3 0] [] τ Q
    have F1 := hF.tr f
    have hT := L2.2.1
    have hs1 := L2.2.2.1
    have hK := L2.2.2.2.1
    have out : ∀ v, RP (up τ 10 2 2 v) I (.inl (((fu D.1.1 2 v, D.1.2), fu D.2.1 2 1, D.2.2), nx I (nx I s))) := fun v => ⟨nx I s, rfl, L2.w (by omega) L2.2.2.2.2.san⟩
    refine b_X2_readAnswer_9 (c_isWord (by omega) hT hK hs1 ?_)
    show WP mX2_readAnswer 15 [vR 3 0] [vI _] τ Q
    refine b_X2_readAnswer_15 ⟨fun z => ?_, fun z => ?_⟩
    · rw [pif_f (b2_eq z)] at eq1
      refine c_isWord (by omega) hT hK hs1 ?_
      show WP mX2_readAnswer 35 [vR 3 0] [vI _] τ Q
      refine b_X2_readAnswer_35 ⟨fun z => ?_, fun z => ?_⟩
      · rw [pif_f (b2_eq z)] at eq1
        refine c_isWord (by omega) hT hK hs1 ?_
        show WP mX2_readAnswer 55 [vR 3 0] [vI _] τ Q
        refine b_X2_readAnswer_55 ⟨fun z => ?_, fun z => ?_⟩
        · rw [pif_f (b2_eq z)] at eq1
          refine c_fail L2 (dokf hD (by omega)) (by omega) (fun υ f2 hd => ?_)
          show WP mX2_readAnswer 74 [vU] [] υ Q
          exact b_X2_readAnswer_74 (h υ (F1.tr f2) (by rw [eq1]; exact hd))
        · rw [pif_t (b2_ne z)] at eq1
          exact b_X2_readAnswer_74 (h _ (F1.u (by unfold rcP; omega)) (by rw [eq1]; exact out 2))
      · rw [pif_t (b2_ne z)] at eq1
        exact b_X2_readAnswer_74 (h _ (F1.u (by unfold rcP; omega)) (by rw [eq1]; exact out 1))
    · rw [pif_t (b2_ne z)] at eq1
      exact b_X2_readAnswer_74 (h _ (F1.u (by unfold rcP; omega)) (by rw [eq1]; exact out 0))
  · show WP mX2_readAnswer 5 [vR 3 0] [] τ Q
    have eq1 : qAnswer I D s = .inr (3, s) := by unfold qAnswer; rw [if_pos hy]
    refine b_X2_readAnswer_5 (c_ntD hd ?_)
    show WP mX2_readAnswer 9 [vR 3 0] [] τ Q
    exact dA9 hd (fun υ f2 hd2 => h υ (f.tr f2) (by rw [eq1]; exact hd2))
end Rd3
