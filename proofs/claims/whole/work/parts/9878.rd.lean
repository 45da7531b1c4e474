/-! ===== the class' reader: small methods ===== -/
def DRc (σ : St) (D : PSt) : Prop := (σ 10 2 0 = pe D.1 ∧ σ 10 2 1 = ha D.1 ∧ σ 10 2 2 = an D.1 ∧ σ 10 2 3 = sy D.1 ∧ σ 3 0 3 = -1) ∧ (∀ j, j < 16 → σ 54 2 j = ge D.1 j) ∧ (∀ j, j < 4 → σ 55 2 j = sl D.1 j) ∧ (∀ j, j < 10 → σ 56 2 j = me D.1 j) ∧ (∀ j, j < 10 → σ 57 2 j = ke D.1 j) ∧ σ 3 0 8 = D.2.1 0 + 2 * D.2.1 1 + 4 * D.2.1 2 + 8 * sy D.1 + 16 * D.2.1 4 ∧ ((0 ≤ σ 3 0 9 ∧ (σ 3 0 9).toNat < 2 ^ 16) ∧ ∀ j, j < 16 → (tbit (σ 3 0 9) j = true ↔ D.2.2.1 j = 1)) ∧ ((0 ≤ σ 3 0 10 ∧ (σ 3 0 10).toNat < 2 ^ 4) ∧ ∀ j, j < 4 → (tbit (σ 3 0 10) j = true ↔ D.2.2.2 j = 1)) ∧ σ 3 0 11 = D.2.1 5
def LV (σ : St) (I : TXT) (s : Nat) (D : PSt) : Prop := σ 3 0 2 = 0 ∧ TPc σ I ∧ s ≤ I.1 ∧ TKc σ I s ∧ DRc σ D
def DEd (σ : St) (I : TXT) (k : Int) (pl : Nat) : Prop := σ 3 0 2 = k ∧ k ≠ 0 ∧ σ 3 0 3 = (pl : Int) ∧ TPc σ I ∧ (∃ s, s ≤ I.1 ∧ TKc σ I s) ∧ (2 ≤ σ 10 2 0 ∧ σ 10 2 0 ≤ 10) ∧ (2 ≤ σ 10 2 1 ∧ σ 10 2 1 ≤ 4)
def RC (σ : St) (I : TXT) (X : Rr) : Prop := match X with
  | .inl (D, e) => LV σ I e D
  | .inr (k, pl) => DEd σ I k pl
def RP (σ : St) (I : TXT) (X : Rr) : Prop := match X with
  | .inl (D, e) => ∃ s, nx I s = e ∧ LV σ I s D
  | .inr (k, pl) => DEd σ I k pl
def rcP (c i j : Nat) : Prop := (c = 3 ∧ i = 0 ∧ 2 ≤ j) ∨ (i = 2 ∧ ((c = 10 ∧ j ≤ 3) ∨ (54 ≤ c ∧ c ≤ 57)))
section Rd
variable {σ τ : St} {Q : Res → St → Prop} {I : TXT} {s : Nat} {D : PSt} {k : Int} {pl : Nat}
theorem tc_rc (f : FR tcP σ τ) : FR rcP σ τ := f.wk (fun c i j z => by unfold tcP at z; unfold rcP; omega)
theorem DRc.tc (h : DRc σ D) (f : FR tcP σ τ) : DRc τ D := by
  have g : ∀ c i j, ¬ tcP c i j → τ c i j = σ c i j := f
  obtain ⟨⟨a0, a1, a2, a3, a4⟩, b1, b2, b3, b4, c1, c2, c3, c4⟩ := h
  refine ⟨⟨?_, ?_, ?_, ?_, ?_⟩, fun j hj => ?_, fun j hj => ?_, fun j hj => ?_, fun j hj => ?_, ?_, ?_, ?_, ?_⟩
  · rw [g 10 2 0 (by unfold tcP; omega)]; exact a0
  · rw [g 10 2 1 (by unfold tcP; omega)]; exact a1
  · rw [g 10 2 2 (by unfold tcP; omega)]; exact a2
  · rw [g 10 2 3 (by unfold tcP; omega)]; exact a3
  · rw [g 3 0 3 (by unfold tcP; omega)]; exact a4
  · rw [g 54 2 j (by unfold tcP; omega)]; exact b1 j hj
  · rw [g 55 2 j (by unfold tcP; omega)]; exact b2 j hj
  · rw [g 56 2 j (by unfold tcP; omega)]; exact b3 j hj
  · rw [g 57 2 j (by unfold tcP; omega)]; exact b4 j hj
  · rw [g 3 0 8 (by unfold tcP; omega)]; exact c1
  · rw [g 3 0 9 (by unfold tcP; omega)]; exact c2
  · rw [g 3 0 10 (by unfold tcP; omega)]; exact c3
  · rw [g 3 0 11 (by unfold tcP; omega)]; exact c4
theorem TPc.rc {I : TXT} (h : TPc σ I) (f : FR rcP σ τ) : TPc τ I := h.fr f (by unfold rcP; omega)
theorem c_nt (hL : LV σ I s D) (h : ∀ τ, FR rcP σ τ → LV τ I (nx I s) D → Q (.inl none) τ) : WP mX2_nextToken 0 [vR 3 0, vU] [] σ Q := by
  obtain ⟨h2, hT, hs, hK, hR⟩ := hL
  refine c_nextToken h2 hT hK.2.1 (tE_le hs) (fun τ f hk => h τ (tc_rc f) ⟨?_, hT.rc (tc_rc f), nx_le hs, hk, hR.tc f⟩)
  rw [f 3 0 2 (by unfold tcP; omega)]; exact h2
theorem c_ntD (hD : DEd σ I k pl) (h : Q (.inl none) σ) : WP mX2_nextToken 0 [vR 3 0, vU] [] σ Q := b_X2_nextToken_0 ⟨fun z => absurd (hD.1.symm.trans z) hD.2.1, fun _ => h⟩
theorem c_failD {x : Int} (hD : DEd σ I k pl) (h : Q (.inl none) σ) : WP mX2_fail 0 [vR 3 0, vI x] [] σ Q := b_X2_fail_0 ⟨fun _ => h, fun z => absurd (hD.1.symm.trans z) hD.2.1⟩
/-- a live state becomes a dead one -/
theorem LV.dead (hL : LV σ I s D) (hD : DOK D) (hk : k ≠ 0) : DEd (up (up σ 3 0 2 k) 3 0 3 (s : Int)) I k s := by
  obtain ⟨h2, hT, hs, ⟨k1, k2, k3, k4⟩, ⟨⟨a0, a1, -⟩, -⟩⟩ := hL
  have f : FR rcP σ (up (up σ 3 0 2 k) 3 0 3 (s : Int)) := (FR.rf.u (by unfold rcP; omega)).u (by unfold rcP; omega)
  refine ⟨by simp [up], hk, by simp [up], hT.rc f, ⟨s, hs, by simp [up, k1], by simp [up, k2], by simp [up, k3], fun z => by simp [up, k4 z]⟩, ?_, ?_⟩
  · have : (up (up σ 3 0 2 k) 3 0 3 (s : Int)) 10 2 0 = pe D.1 := by simp [up, a0]
    rw [this]; exact hD.1
  · have : (up (up σ 3 0 2 k) 3 0 3 (s : Int)) 10 2 1 = ha D.1 := by simp [up, a1]
    rw [this]; exact hD.2.1
theorem c_fail (hL : LV σ I s D) (hD : DOK D) (hk : k ≠ 0) (h : ∀ τ, FR rcP σ τ → DEd τ I k s → Q (.inl none) τ) : WP mX2_fail 0 [vR 3 0, vI k] [] σ Q := by
  refine b_X2_fail_0 ⟨fun z => absurd hL.1 z, fun _ => ?_⟩
  rw [hL.2.2.2.1.1]
  exact h _ ((FR.rf.u (by unfold rcP; omega)).u (by unfold rcP; omega)) (hL.dead hD hk)
theorem c_numW {lo hi : Int} (hL : LV σ I s D) (hD : DOK D) (h1 : (∀ K, num I lo hi s K = K (tN I s)) → lo ≤ tN I s → tN I s ≤ hi → Q (.inl (some (vI (tN I s)))) σ) (h2 : ∀ τ k, (∀ K, num I lo hi s K = .inr (k, s)) → FR rcP σ τ → DEd τ I k s → Q (.inl (some (vI lo))) τ) : WP mX2_numberWithin 0 [vR 3 0, vI lo, vI hi] [] σ Q := by
  obtain ⟨k1, k2, k3, k4⟩ := hL.2.2.2.1
  have out : ∀ τ k, (∀ K, num I lo hi s K = .inr (k, s)) → FR rcP σ τ → DEd τ I k s → WP mX2_numberWithin 37 [vR 3 0, vI lo, vU] [] τ Q := fun τ k hn f hd => b_X2_numberWithin_37 ⟨fun _ => h2 τ k hn f hd, fun z => absurd (hd.1.symm.trans z) hd.2.1⟩
  refine b_X2_numberWithin_0 ⟨fun z => ?_, fun z => c_fail hL hD (by omega) (fun τ f hd => ?_)⟩
  · rw [k3] at z
    rw [k4 z]
    refine ⟨fun q => c_fail hL hD (by omega) (fun τ f hd => ?_), fun q => ⟨fun r => ?_, fun r => c_fail hL hD (by omega) (fun τ f hd => ?_)⟩⟩
    · show WP mX2_numberWithin 37 [vR 3 0, vI lo, vU] [] τ Q
      exact out τ 2 (num_2 z (by omega)) f hd
    · refine b_X2_numberWithin_37 ⟨fun w => absurd hL.1 w, fun _ => ?_⟩
      rw [k4 z]
      exact h1 (num_ok z ⟨q, r⟩) q r
    · show WP mX2_numberWithin 37 [vR 3 0, vI lo, vU] [] τ Q
      exact out τ 2 (num_2 z (by omega)) f hd
  · rw [k3] at z
    show WP mX2_numberWithin 13 [vR 3 0, vI lo, vU] [] τ Q
    exact b_X2_numberWithin_13 (out τ 1 (num_1 z) f hd)
theorem c_numWD {lo hi : Int} (hd : DEd σ I k pl) (h : Q (.inl (some (vI lo))) σ) : WP mX2_numberWithin 0 [vR 3 0, vI lo, vI hi] [] σ Q := by
  have out : WP mX2_numberWithin 37 [vR 3 0, vI lo, vU] [] σ Q := b_X2_numberWithin_37 ⟨fun _ => h, fun z => absurd (hd.1.symm.trans z) hd.2.1⟩
  refine b_X2_numberWithin_0 ⟨fun z => ⟨fun q => c_failD hd out, fun q => ⟨fun r => out, fun r => c_failD hd out⟩⟩, fun z => c_failD hd ?_⟩
  show WP mX2_numberWithin 13 [vR 3 0, vI lo, vU] [] σ Q
  exact b_X2_numberWithin_13 out
theorem c_nextW {lo hi : Int} (hL : LV σ I s D) (hD : DOK D) (h1 : ∀ τ, FR rcP σ τ → LV τ I (nx I s) D → (∀ K, num I lo hi (nx I s) K = K (tN I (nx I s))) → lo ≤ tN I (nx I s) → tN I (nx I s) ≤ hi → Q (.inl (some (vI (tN I (nx I s))))) τ) (h2 : ∀ τ k, (∀ K, num I lo hi (nx I s) K = .inr (k, nx I s)) → FR rcP σ τ → DEd τ I k (nx I s) → Q (.inl (some (vI lo))) τ) : WP mX2_nextWithin 0 [vR 3 0, vI lo, vI hi] [] σ Q := by
  refine b_X2_nextWithin_0 (c_nt hL (fun τ f hL1 => ?_))
  show WP mX2_nextWithin 4 [vR 3 0, vI lo, vI hi] [] τ Q
  refine b_X2_nextWithin_4 (c_numW hL1 hD (fun e q r => ?_) (fun υ k e f2 hd => ?_))
  · show WP mX2_nextWithin 10 [vU, vU, vU] [vI _] τ Q
    exact b_X2_nextWithin_10 (h1 τ f hL1 e q r)
  · show WP mX2_nextWithin 10 [vU, vU, vU] [vI _] υ Q
    exact b_X2_nextWithin_10 (h2 υ k e (f.tr f2) hd)
theorem c_nextWD {lo hi : Int} (hd : DEd σ I k pl) (h : Q (.inl (some (vI lo))) σ) : WP mX2_nextWithin 0 [vR 3 0, vI lo, vI hi] [] σ Q := by
  refine b_X2_nextWithin_0 (c_ntD hd ?_)
  show WP mX2_nextWithin 4 [vR 3 0, vI lo, vI hi] [] σ Q
  refine b_X2_nextWithin_4 (c_numWD hd ?_)
  show WP mX2_nextWithin 10 [vU, vU, vU] [vI _] σ Q
  exact b_X2_nextWithin_10 h
theorem c_tell {x b : Int} (hL : LV σ I s D) (hD : DOK D) (hb : band (σ 3 0 8) x ≠ 0 ↔ b = 1) (h1 : b ≠ 1 → Q (.inl none) (up σ 3 0 8 (bor (σ 3 0 8) x))) (h2 : b = 1 → ∀ τ, FR rcP σ τ → DEd τ I 3 s → Q (.inl none) τ) : WP mX2_tellOnce 0 [vR 3 0, vI x] [] σ Q := by
  refine b_X2_tellOnce_0 ⟨fun z => ?_, fun z => c_fail hL hD (by omega) (fun τ f hd => ?_)⟩
  · exact b_X2_tellOnce_14 (h1 (fun q => (hb.mpr q) z))
  · show WP mX2_tellOnce 14 [vR 3 0, vI x] [] τ Q
    refine b_X2_tellOnce_14 (h2 (hb.mp z) _ (f.u (by unfold rcP; omega)) ?_)
    obtain ⟨d1, d2, d3, d4, ⟨s1, d5, k1, k2, k3, k4⟩, d6, d7⟩ := hd
    exact ⟨by simp [up, d1], d2, by simp [up, d3], d4.rc (FR.rf.u (by unfold rcP; omega)), ⟨s1, d5, by simp [up, k1], by simp [up, k2], by simp [up, k3], fun z => by simp [up, k4 z]⟩, by simp [up]; exact d6, by simp [up]; exact d7⟩
/-- writes that leave a dead state dead -/
theorem DEd.w {c i j : Nat} {x : Int} (hd : DEd σ I k pl) (hc : (c = 3 ∧ i = 0 ∧ 8 ≤ j) ∨ (i = 2 ∧ ((c = 10 ∧ 2 ≤ j) ∨ (54 ≤ c ∧ c ≤ 57)))) : DEd (up σ c i j x) I k pl := by
  have g : ∀ c' i' j', ¬ (c' = c ∧ i' = i ∧ j' = j) → up σ c i j x c' i' j' = σ c' i' j' := fun c' i' j' h => by
    unfold up; rw [if_neg h]
  obtain ⟨d1, d2, d3, d4, ⟨s1, d5, k1, k2, k3, k4⟩, d6, d7⟩ := hd
  refine ⟨by rw [g 3 0 2 (by omega)]; exact d1, d2, by rw [g 3 0 3 (by omega)]; exact d3, ⟨by rw [g 8 0 1 (by omega)]; exact d4.1, d4.2.1, fun q hq => by rw [g 46 0 q (by omega)]; exact d4.2.2 q hq⟩, ⟨s1, d5, by rw [g 3 0 6 (by omega)]; exact k1, by rw [g 3 0 4 (by omega)]; exact k2, by rw [g 3 0 5 (by omega)]; exact k3, fun z => by rw [g 3 0 7 (by omega)]; exact k4 z⟩, by rw [g 10 2 0 (by omega)]; exact d6, by rw [g 10 2 1 (by omega)]; exact d7⟩
theorem LV.w {c i j : Nat} {x : Int} {D' : PSt} (hL : LV σ I s D) (hc : (c = 3 ∧ i = 0 ∧ 8 ≤ j) ∨ (i = 2 ∧ (c = 10 ∨ (54 ≤ c ∧ c ≤ 57)))) (hR : DRc (up σ c i j x) D') : LV (up σ c i j x) I s D' := by
  have g : ∀ c' i' j', ¬ (c' = c ∧ i' = i ∧ j' = j) → up σ c i j x c' i' j' = σ c' i' j' := fun c' i' j' h => by
    unfold up; rw [if_neg h]
  obtain ⟨d1, d4, d5, ⟨k1, k2, k3, k4⟩, -⟩ := hL
  exact ⟨by rw [g 3 0 2 (by omega)]; exact d1, ⟨by rw [g 8 0 1 (by omega)]; exact d4.1, d4.2.1, fun q hq => by rw [g 46 0 q (by omega)]; exact d4.2.2 q hq⟩, d5, ⟨by rw [g 3 0 6 (by omega)]; exact k1, by rw [g 3 0 4 (by omega)]; exact k2, by rw [g 3 0 5 (by omega)]; exact k3, fun z => by rw [g 3 0 7 (by omega)]; exact k4 z⟩, hR⟩
theorem c_tellD {x : Int} (hd : DEd σ I k pl) (h : ∀ τ, FR rcP σ τ → DEd τ I k pl → Q (.inl none) τ) : WP mX2_tellOnce 0 [vR 3 0, vI x] [] σ Q := by
  have out : WP mX2_tellOnce 14 [vR 3 0, vI x] [] σ Q := b_X2_tellOnce_14 (h _ (FR.rf.u (by unfold rcP; omega)) (hd.w (by omega)))
  exact b_X2_tellOnce_0 ⟨fun _ => out, fun _ => c_failD hd out⟩
theorem told_tab : ∀ a b c d g : Fin 2, ((band ((a.val + 2 * b.val + 4 * c.val + 8 * d.val + 16 * g.val : Nat) : Int) 1 ≠ 0 ↔ ((a.val : Nat) : Int) = 1) ∧ (band ((a.val + 2 * b.val + 4 * c.val + 8 * d.val + 16 * g.val : Nat) : Int) 2 ≠ 0 ↔ ((b.val : Nat) : Int) = 1) ∧ (band ((a.val + 2 * b.val + 4 * c.val + 8 * d.val + 16 * g.val : Nat) : Int) 4 ≠ 0 ↔ ((c.val : Nat) : Int) = 1) ∧ (band ((a.val + 2 * b.val + 4 * c.val + 8 * d.val + 16 * g.val : Nat) : Int) 8 ≠ 0 ↔ ((d.val : Nat) : Int) = 1) ∧ (band ((a.val + 2 * b.val + 4 * c.val + 8 * d.val + 16 * g.val : Nat) : Int) 16 ≠ 0 ↔ ((g.val : Nat) : Int) = 1)) ∧ (((a.val : Nat) : Int) ≠ 1 → bor ((a.val + 2 * b.val + 4 * c.val + 8 * d.val + 16 * g.val : Nat) : Int) 1 = ((a.val + 2 * b.val + 4 * c.val + 8 * d.val + 16 * g.val : Nat) : Int) + 1) ∧ (((b.val : Nat) : Int) ≠ 1 → bor ((a.val + 2 * b.val + 4 * c.val + 8 * d.val + 16 * g.val : Nat) : Int) 2 = ((a.val + 2 * b.val + 4 * c.val + 8 * d.val + 16 * g.val : Nat) : Int) + 2) ∧ (((c.val : Nat) : Int) ≠ 1 → bor ((a.val + 2 * b.val + 4 * c.val + 8 * d.val + 16 * g.val : Nat) : Int) 4 = ((a.val + 2 * b.val + 4 * c.val + 8 * d.val + 16 * g.val : Nat) : Int) + 4) ∧ (((d.val : Nat) : Int) ≠ 1 → bor ((a.val + 2 * b.val + 4 * c.val + 8 * d.val + 16 * g.val : Nat) : Int) 8 = ((a.val + 2 * b.val + 4 * c.val + 8 * d.val + 16 * g.val : Nat) : Int) + 8) ∧ bor ((a.val + 2 * b.val + 4 * c.val + 8 * d.val + 16 * g.val : Nat) : Int) 16 = ((a.val + 2 * b.val + 4 * c.val + 8 * d.val + 16 * g.val : Nat) : Int) + 16 * (1 - ((g.val : Nat) : Int)) := by decide +kernel
theorem told_b (hD : DOK D) (hR : DRc σ D) : ((band (σ 3 0 8) 1 ≠ 0 ↔ D.2.1 0 = 1) ∧ (band (σ 3 0 8) 2 ≠ 0 ↔ D.2.1 1 = 1) ∧ (band (σ 3 0 8) 4 ≠ 0 ↔ D.2.1 2 = 1) ∧ (band (σ 3 0 8) 8 ≠ 0 ↔ sy D.1 = 1) ∧ (band (σ 3 0 8) 16 ≠ 0 ↔ D.2.1 4 = 1)) ∧ (D.2.1 0 ≠ 1 → bor (σ 3 0 8) 1 = σ 3 0 8 + 1) ∧ (D.2.1 1 ≠ 1 → bor (σ 3 0 8) 2 = σ 3 0 8 + 2) ∧ (D.2.1 2 ≠ 1 → bor (σ 3 0 8) 4 = σ 3 0 8 + 4) ∧ (sy D.1 ≠ 1 → bor (σ 3 0 8) 8 = σ 3 0 8 + 8) ∧ bor (σ 3 0 8) 16 = σ 3 0 8 + 16 * (1 - D.2.1 4) := by
  have hm := hR.2.2.2.2.2.1
  have f0 := hD.2.2.2.2.2.2.2.2.2.1 0
  have f1 := hD.2.2.2.2.2.2.2.2.2.1 1
  have f2 := hD.2.2.2.2.2.2.2.2.2.1 2
  have f4 := hD.2.2.2.2.2.2.2.2.2.1 4
  have f3 := hD.2.2.2.2.1
  have ex : ∀ x : Int, x = 0 ∨ x = 1 → ∃ n : Nat, n < 2 ∧ x = (n : Int) := fun x hx => by
    rcases hx with h | h
    · exact ⟨0, by omega, by omega⟩
    · exact ⟨1, by omega, by omega⟩
  obtain ⟨a, ha2, ea⟩ := ex _ f0
  obtain ⟨b, hb2, eb⟩ := ex _ f1
  obtain ⟨c, hc2, ec⟩ := ex _ f2
  obtain ⟨d, hd2, ed⟩ := ex _ f3
  obtain ⟨g, hg2, eg⟩ := ex _ f4
  rw [ea, eb, ec, ed, eg] at hm
  rw [ea, eb, ec, ed, eg]
  have e8 : σ 3 0 8 = ((a + 2 * b + 4 * c + 8 * d + 16 * g : Nat) : Int) := by rw [hm]; push_cast; rfl
  rw [e8]
  exact told_tab ⟨a, ha2⟩ ⟨b, hb2⟩ ⟨c, hc2⟩ ⟨d, hd2⟩ ⟨g, hg2⟩
/-- the marks change -/
theorem DRc.f8 {f : Nat → Int} {v : Int} (h : DRc σ D) (h5 : f 5 = D.2.1 5) (hv : v = f 0 + 2 * f 1 + 4 * f 2 + 8 * sy D.1 + 16 * f 4) : DRc (up σ 3 0 8 v) (D.1, f, D.2.2) := by
  obtain ⟨⟨a0, a1, a2, a3, a4⟩, b1, b2, b3, b4, c1, c2, c3, c4⟩ := h
  exact ⟨⟨by simp [up, a0], by simp [up, a1], by simp [up, a2], by simp [up, a3], by simp [up, a4]⟩, fun j hj => by simp [up, b1 j hj], fun j hj => by simp [up, b2 j hj], fun j hj => by simp [up, b3 j hj], fun j hj => by simp [up, b4 j hj], by simp [up, hv], by simpa [up] using c2, by simpa [up] using c3, by simp [up, c4, h5]⟩
theorem DRc.f11 (h : DRc σ D) : DRc (up σ 3 0 11 1) (D.1, fu D.2.1 5 1, D.2.2) := by
  obtain ⟨⟨a0, a1, a2, a3, a4⟩, b1, b2, b3, b4, c1, c2, c3, c4⟩ := h
  exact ⟨⟨by simp [up, a0], by simp [up, a1], by simp [up, a2], by simp [up, a3], by simp [up, a4]⟩, fun j hj => by simp [up, b1 j hj], fun j hj => by simp [up, b2 j hj], fun j hj => by simp [up, b3 j hj], fun j hj => by simp [up, b4 j hj], by simp [up, c1, fu], by simpa [up] using c2, by simpa [up] using c3, by simp [up, fu]⟩
theorem dok11 (hD : DOK D) : DOK (D.1, fu D.2.1 5 1, D.2.2) := by
  obtain ⟨a1, a2, a3, a4, a5, a6, a7, a8, a9, a10, a11, a12, a13⟩ := hD
  refine ⟨a1, a2, a3, a4, a5, a6, a7, a8, a9, fu01 a10, a11, a12, fun z => ?_⟩
  have : fu D.2.1 5 1 5 = 0 := z
  rw [fu_s] at this; omega
end Rd
