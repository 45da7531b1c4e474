/-! ===== the class' reader: people, habits, keeps, slip, worth ===== -/
section Rd2
variable {σ τ : St} {Q : Res → St → Prop} {I : TXT} {s : Nat} {D : PSt} {k : Int} {pl : Nat}
theorem c_tooMany {H n : Nat} (hH : 2 ≤ H) (hH4 : H ≤ 4) (hn : n ≤ 10) (h0 : H ^ n ≤ 1024 → Q (.inl (some (vI 0))) σ) (h1 : 1024 < H ^ n → Q (.inl (some (vI 1))) σ) : WP mX2_tooMany 0 [vI (H : Int), vI (n : Int), vU, vU] [] σ Q := by
  refine b_X2_tooMany_0 ?_
  have key : ∀ r p : Nat, r + p = n → H ^ p ≤ 4096 → WP mX2_tooMany 4 [vI (H : Int), vI (n : Int), vI ((H ^ p : Nat) : Int), vI (p : Int)] [] σ Q := by
    intro r
    induction r with
    | zero =>
      intro p hp hc
      have e : p = n := by omega
      subst e
      exact b_X2_tooMany_4 ⟨fun _ => ⟨fun z => h0 (by omega), fun z => h1 (by omega)⟩, fun z => by omega⟩
    | succ r ih =>
      intro p hp hc
      refine b_X2_tooMany_4 ⟨fun z => by omega, fun _ => ⟨fun z => ⟨fun w => by omega, fun _ => h1 ?_⟩, fun z => ⟨?_, by unfold in32; omega, ?_⟩⟩⟩
      · have : H ^ p ≤ H ^ n := Nat.pow_le_pow_right (by omega) (by omega)
        omega
      · have h5 : H ^ p * H ≤ 1024 * 4 := Nat.mul_le_mul (by omega) hH4
        have e : ((H ^ p : Nat) : Int) * (H : Int) = ((H ^ p * H : Nat) : Int) := by push_cast; rfl
        rw [e]; unfold in32; omega
      · have h5 : H ^ p * H ≤ 1024 * 4 := Nat.mul_le_mul (by omega) hH4
        have e : ((H ^ p : Nat) : Int) * (H : Int) = ((H ^ (p + 1) : Nat) : Int) := by rw [Nat.pow_succ]; push_cast; rfl
        rw [e]
        exact ih (p + 1) (by omega) (by rw [Nat.pow_succ]; omega)
  exact key n 0 (by omega) (by rw [Nat.pow_zero]; omega)
theorem DEd.sz {c : Nat} {v : Int} (hd : DEd σ I k pl) (hc : (c = 0 ∧ 2 ≤ v ∧ v ≤ 10) ∨ (c = 1 ∧ 2 ≤ v ∧ v ≤ 4)) : DEd (up σ 10 2 c v) I k pl := by
  obtain ⟨d1, d2, d3, d4, ⟨s1, d5, k1, k2, k3, k4⟩, d6, d7⟩ := hd
  refine ⟨by simp [up, d1], d2, by simp [up, d3], d4.rc (FR.rf.u (by unfold rcP; omega)), ⟨s1, d5, by simp [up, k1], by simp [up, k2], by simp [up, k3], fun z => by simp [up, k4 z]⟩, ?_, ?_⟩
  · rcases hc with ⟨rfl, a, b⟩ | ⟨rfl, a, b⟩
    · rw [up_s]; exact ⟨a, b⟩
    · rw [up_j (by omega)]; exact d6
  · rcases hc with ⟨rfl, a, b⟩ | ⟨rfl, a, b⟩
    · rw [up_j (by omega)]; exact d7
    · rw [up_s]; exact ⟨a, b⟩
theorem c_tellSize {x b : Int} {D₁ : PSt} (hL : LV σ I s D) (hD : DOK D) (hb : band (σ 3 0 8) x ≠ 0 ↔ b = 1) (hL1 : b ≠ 1 → LV (up σ 3 0 8 (bor (σ 3 0 8) x)) I s D₁ ∧ DOK D₁) (h1 : b ≠ 1 → D.2.1 5 ≠ 1 → Q (.inl none) (up σ 3 0 8 (bor (σ 3 0 8) x))) (h2 : ∀ τ k, (b = 1 ∧ k = 3) ∨ (b ≠ 1 ∧ D.2.1 5 = 1 ∧ k = 4) → FR rcP σ τ → DEd τ I k s → Q (.inl none) τ) : WP mX2_tellSize 0 [vR 3 0, vI x] [] σ Q := by
  have e11 := hL.2.2.2.2.2.2.2.2.2.2.2.2
  refine b_X2_tellSize_0 (c_tell hL hD hb (fun hn => ?_) (fun hy τ f hd => ?_))
  · show WP mX2_tellSize 5 [vR 3 0, vU] [] _ Q
    obtain ⟨L1, O1⟩ := hL1 hn
    have e : (up σ 3 0 8 (bor (σ 3 0 8) x)) 3 0 11 = D.2.1 5 := by simp [up, e11]
    refine b_X2_tellSize_5 ?_
    rw [e]
    refine ⟨fun z => ?_, fun z => c_fail L1 O1 (by omega) (fun τ f hd => ?_)⟩
    · exact b_X2_tellSize_17 (h1 hn (by omega))
    · show WP mX2_tellSize 17 [vU, vU] [] τ Q
      exact b_X2_tellSize_17 (h2 τ 4 (Or.inr ⟨hn, (hD.2.2.2.2.2.2.2.2.2.1 5).resolve_left z, rfl⟩) ((FR.rf.u (by unfold rcP; omega)).tr f) hd)
  · show WP mX2_tellSize 5 [vR 3 0, vU] [] _ Q
    have out : WP mX2_tellSize 17 [vU, vU] [] τ Q := b_X2_tellSize_17 (h2 τ 3 (Or.inl ⟨hy, rfl⟩) f hd)
    exact b_X2_tellSize_5 ⟨fun _ => out, fun _ => c_failD hd out⟩
/-! people -/
theorem dP12 (hd : DEd σ I k pl) (h : ∀ τ, FR rcP σ τ → DEd τ I k pl → Q (.inl none) τ) : WP mX2_readPeople 12 [vR 3 0, vU] [vI 2] σ Q := by
  obtain ⟨H, e, h2, h4⟩ : ∃ H : Nat, σ 10 2 1 = (H : Int) ∧ 2 ≤ H ∧ H ≤ 4 := ⟨(σ 10 2 1).toNat, by have := hd.2.2.2.2.2.2; omega, by have := hd.2.2.2.2.2.2; omega, by have := hd.2.2.2.2.2.2; omega⟩
  refine b_X2_readPeople_12 ?_
  rw [e]
  have q : H ^ 2 ≤ 4 ^ 2 := Nat.pow_le_pow_left h4 2
  refine c_tooMany (n := 2) h2 h4 (by omega) (fun _ => ?_) (fun z => by omega)
  show WP mX2_readPeople 24 [vR 3 0, vI 2] [vI 0] σ Q
  exact b_X2_readPeople_24 ⟨fun _ => h _ (FR.rf.u (by unfold rcP; omega)) (hd.sz (by omega)), fun z => absurd rfl z⟩
theorem dP5 (hd : DEd σ I k pl) (h : ∀ τ, FR rcP σ τ → DEd τ I k pl → Q (.inl none) τ) : WP mX2_readPeople 5 [vR 3 0, vU] [] σ Q := b_X2_readPeople_5 (c_nextWD hd (dP12 hd h))
theorem LV.fl (hL : LV σ I s D) {f : Nat → Int} {v : Int} (h5 : f 5 = D.2.1 5) (hv : v = f 0 + 2 * f 1 + 4 * f 2 + 8 * sy D.1 + 16 * f 4) : LV (up σ 3 0 8 v) I s (D.1, f, D.2.2) := hL.w (by omega) (hL.2.2.2.2.f8 h5 hv)
theorem dokf {j : Nat} (hD : DOK D) (hj : j ≠ 5) : DOK (D.1, fu D.2.1 j 1, D.2.2) := by
  obtain ⟨a1, a2, a3, a4, a5, a6, a7, a8, a9, a10, a11, a12, a13⟩ := hD
  exact ⟨a1, a2, a3, a4, a5, a6, a7, a8, a9, fu01 a10, a11, a12, fun z => a13 (by have : fu D.2.1 j 1 5 = 0 := z; rw [fu_n (fun q => hj q.symm)] at this; exact this)⟩
theorem pw_nat {H n : Nat} : ((H : Int) ^ n ≤ 1024) ↔ H ^ n ≤ 1024 := by
  have e : ((H : Int) ^ n) = ((H ^ n : Nat) : Int) := by push_cast; rfl
  rw [e]; omega
theorem DRc.sp {v : Int} (h : DRc σ D) : DRc (up σ 10 2 0 v) ((fu D.1.1 0 v, D.1.2), D.2) := by
  obtain ⟨⟨a0, a1, a2, a3, a4⟩, b1, b2, b3, b4, c1, c2, c3, c4⟩ := h
  exact ⟨⟨by simp [up, pe, fu], by simp [up]; exact a1, by simp [up]; exact a2, by simp [up]; exact a3, by simp [up]; exact a4⟩, fun j hj => by simp [up]; exact b1 j hj, fun j hj => by simp [up]; exact b2 j hj, fun j hj => by simp [up]; exact b3 j hj, fun j hj => by simp [up]; exact b4 j hj, by simp [up]; exact c1, by simpa [up] using c2, by simpa [up] using c3, by simp [up]; exact c4⟩
theorem DRc.sh {v : Int} (h : DRc σ D) : DRc (up σ 10 2 1 v) ((fu D.1.1 1 v, D.1.2), D.2) := by
  obtain ⟨⟨a0, a1, a2, a3, a4⟩, b1, b2, b3, b4, c1, c2, c3, c4⟩ := h
  exact ⟨⟨by simp [up]; exact a0, by simp [up, ha, fu], by simp [up]; exact a2, by simp [up]; exact a3, by simp [up]; exact a4⟩, fun j hj => by simp [up]; exact b1 j hj, fun j hj => by simp [up]; exact b2 j hj, fun j hj => by simp [up]; exact b3 j hj, fun j hj => by simp [up]; exact b4 j hj, by simp [up]; exact c1, by simpa [up] using c2, by simpa [up] using c3, by simp [up]; exact c4⟩
theorem c_people (hL : LV σ I s D) (hD : DOK D) (h : ∀ τ, FR rcP σ τ → RP τ I (qPeople I D s) → Q (.inl none) τ) : WP mX2_readPeople 0 [vR 3 0, vU] [] σ Q := by
  have tb := told_b hD hL.2.2.2.2
  have hm := hL.2.2.2.2.2.2.2.2.2.1
  have hF : FR rcP σ (up σ 3 0 8 (bor (σ 3 0 8) 1)) := FR.rf.u (by unfold rcP; omega)
  have hL1 : D.2.1 0 ≠ 1 → LV (up σ 3 0 8 (bor (σ 3 0 8) 1)) I s (D.1, fu D.2.1 0 1, D.2.2) := fun hn => hL.fl (fu_n (by omega)) (by
    have f0 := (hD.2.2.2.2.2.2.2.2.2.1 0).resolve_right hn
    rw [tb.2.1 hn, fu_s, fu_n (by omega), fu_n (by omega), fu_n (by omega), hm]; omega)
  refine b_X2_readPeople_0 (c_tellSize (b := D.2.1 0) (D₁ := (D.1, fu D.2.1 0 1, D.2.2)) hL hD tb.1.1 (fun hn => ⟨hL1 hn, dokf hD (by omega)⟩) (fun hn h5 => ?_) (fun τ k hk f hd => ?_))
  · show WP mX2_readPeople 5 [vR 3 0, vU] [] _ Q
    have eq1 : qPeople I D s = num I 2 10 (nx I s) (fun v => if ha D.1 ^ v.toNat ≤ 1024 then .inl (((fu D.1.1 0 v, D.1.2), fu D.2.1 0 1, D.2.2), nx I (nx I s)) else .inr (2, nx I s)) := by
      unfold qPeople; rw [if_neg hn, if_neg h5]
    refine b_X2_readPeople_5 (c_nextW (hL1 hn) (dokf hD (by omega)) (fun τ f L2 en l1 l2 => ?_) (fun τ k en f hd => ?_))
    · show WP mX2_readPeople 12 [vR 3 0, vU] [vI _] τ Q
      rw [en] at eq1
      have e1 : τ 10 2 1 = ha D.1 := L2.2.2.2.2.1.2.1
      obtain ⟨H, eH, h2, h4⟩ : ∃ H : Nat, ha D.1 = (H : Int) ∧ 2 ≤ H ∧ H ≤ 4 := ⟨(ha D.1).toNat, by have := hD.2.1; omega, by have := hD.2.1; omega, by have := hD.2.1; omega⟩
      obtain ⟨n, en2⟩ : ∃ n : Nat, tN I (nx I s) = (n : Int) := ⟨(tN I (nx I s)).toNat, by omega⟩
      rw [en2] at eq1 l1 l2 ⊢
      rw [Int.toNat_natCast, eH] at eq1
      refine b_X2_readPeople_12 ?_
      rw [e1, eH]
      refine c_tooMany (n := n) h2 h4 (by omega) (fun z => ?_) (fun z => ?_)
      · show WP mX2_readPeople 24 [vR 3 0, vI _] [vI 0] τ Q
        rw [if_pos (pw_nat.mpr z)] at eq1
        refine b_X2_readPeople_24 ⟨fun _ => h _ ((hF.tr f).u (by unfold rcP; omega)) ?_, fun z => absurd rfl z⟩
        rw [eq1]
        exact ⟨nx I s, rfl, L2.w (by omega) L2.2.2.2.2.sp⟩
      · show WP mX2_readPeople 24 [vR 3 0, vI _] [vI 1] τ Q
        rw [if_neg (fun q => by have := pw_nat.mp q; omega)] at eq1
        refine b_X2_readPeople_24 ⟨fun z => by omega, fun _ => c_fail L2 (dokf hD (by omega)) (by omega) (fun υ f2 hd => ?_)⟩
        show WP mX2_readPeople 32 [vU, vU] [] υ Q
        exact b_X2_readPeople_32 (h υ ((hF.tr f).tr f2) (by rw [eq1]; exact hd))
    · show WP mX2_readPeople 12 [vR 3 0, vU] [vI 2] τ Q
      rw [en] at eq1
      exact dP12 hd (fun υ f2 hd2 => h υ ((hF.tr f).tr f2) (by rw [eq1]; exact hd2))
  · show WP mX2_readPeople 5 [vR 3 0, vU] [] τ Q
    refine dP5 hd (fun υ f2 hd2 => h υ (f.tr f2) ?_)
    unfold qPeople
    rcases hk with ⟨a, rfl⟩ | ⟨a, b, rfl⟩
    · rw [if_pos a]; exact hd2
    · rw [if_neg a, if_pos b]; exact hd2
/-! habits -/
theorem dH11 (hd : DEd σ I k pl) (h : ∀ τ, FR rcP σ τ → DEd τ I k pl → Q (.inl none) τ) : WP mX2_readHabits 11 [vR 3 0, vU] [vI 2] σ Q := by
  obtain ⟨n, e, h2, h4⟩ : ∃ n : Nat, σ 10 2 0 = (n : Int) ∧ 2 ≤ n ∧ n ≤ 10 := ⟨(σ 10 2 0).toNat, by have := hd.2.2.2.2.2.1; omega, by have := hd.2.2.2.2.2.1; omega, by have := hd.2.2.2.2.2.1; omega⟩
  refine b_X2_readHabits_11 ?_
  rw [e]
  have q : 2 ^ n ≤ 2 ^ 10 := Nat.pow_le_pow_right (by omega) h4
  refine c_tooMany (H := 2) (by omega) (by omega) h4 (fun _ => ?_) (fun z => by omega)
  show WP mX2_readHabits 23 [vR 3 0, vI 2] [vI 0] σ Q
  exact b_X2_readHabits_23 ⟨fun _ => h _ (FR.rf.u (by unfold rcP; omega)) (hd.sz (by omega)), fun z => absurd rfl z⟩
theorem dH5 (hd : DEd σ I k pl) (h : ∀ τ, FR rcP σ τ → DEd τ I k pl → Q (.inl none) τ) : WP mX2_readHabits 5 [vR 3 0, vU] [] σ Q := b_X2_readHabits_5 (c_nextWD hd (dH11 hd h))
theorem c_habits (hL : LV σ I s D) (hD : DOK D) (h : ∀ τ, FR rcP σ τ → RP τ I (qHabits I D s) → Q (.inl none) τ) : WP mX2_readHabits 0 [vR 3 0, vU] [] σ Q := by
  have tb := told_b hD hL.2.2.2.2
  have hm := hL.2.2.2.2.2.2.2.2.2.1
  have hF : FR rcP σ (up σ 3 0 8 (bor (σ 3 0 8) 2)) := FR.rf.u (by unfold rcP; omega)
  have hL1 : D.2.1 1 ≠ 1 → LV (up σ 3 0 8 (bor (σ 3 0 8) 2)) I s (D.1, fu D.2.1 1 1, D.2.2) := fun hn => hL.fl (fu_n (by omega)) (by
    have f0 := (hD.2.2.2.2.2.2.2.2.2.1 1).resolve_right hn
    rw [tb.2.2.1 hn, fu_s, fu_n (by omega), fu_n (by omega), fu_n (by omega), hm]; omega)
  refine b_X2_readHabits_0 (c_tellSize (b := D.2.1 1) (D₁ := (D.1, fu D.2.1 1 1, D.2.2)) hL hD tb.1.2.1 (fun hn => ⟨hL1 hn, dokf hD (by omega)⟩) (fun hn h5 => ?_) (fun τ k hk f hd => ?_))
  · show WP mX2_readHabits 5 [vR 3 0, vU] [] _ Q
    have eq1 : qHabits I D s = num I 2 4 (nx I s) (fun v => if v ^ (pe D.1).toNat ≤ 1024 then .inl (((fu D.1.1 1 v, D.1.2), fu D.2.1 1 1, D.2.2), nx I (nx I s)) else .inr (2, nx I s)) := by
      unfold qHabits; rw [if_neg hn, if_neg h5]
    refine b_X2_readHabits_5 (c_nextW (hL1 hn) (dokf hD (by omega)) (fun τ f L2 en l1 l2 => ?_) (fun τ k en f hd => ?_))
    · show WP mX2_readHabits 11 [vR 3 0, vU] [vI _] τ Q
      rw [en] at eq1
      have e1 : τ 10 2 0 = pe D.1 := L2.2.2.2.2.1.1
      obtain ⟨n, eH, h2, h4⟩ : ∃ n : Nat, pe D.1 = (n : Int) ∧ 2 ≤ n ∧ n ≤ 10 := ⟨(pe D.1).toNat, by have := hD.1; omega, by have := hD.1; omega, by have := hD.1; omega⟩
      obtain ⟨H, en2⟩ : ∃ n : Nat, tN I (nx I s) = (n : Int) := ⟨(tN I (nx I s)).toNat, by omega⟩
      rw [en2] at eq1 l1 l2 ⊢
      rw [eH, Int.toNat_natCast] at eq1
      refine b_X2_readHabits_11 ?_
      rw [e1, eH]
      refine c_tooMany (H := H) (n := n) (by omega) (by omega) h4 (fun z => ?_) (fun z => ?_)
      · show WP mX2_readHabits 23 [vR 3 0, vI _] [vI 0] τ Q
        rw [if_pos (pw_nat.mpr z)] at eq1
        refine b_X2_readHabits_23 ⟨fun _ => h _ ((hF.tr f).u (by unfold rcP; omega)) ?_, fun z => absurd rfl z⟩
        rw [eq1]
        exact ⟨nx I s, rfl, L2.w (by omega) L2.2.2.2.2.sh⟩
      · show WP mX2_readHabits 23 [vR 3 0, vI _] [vI 1] τ Q
        rw [if_neg (fun q => by have := pw_nat.mp q; omega)] at eq1
        refine b_X2_readHabits_23 ⟨fun z => by omega, fun _ => c_fail L2 (dokf hD (by omega)) (by omega) (fun υ f2 hd => ?_)⟩
        show WP mX2_readHabits 31 [vU, vU] [] υ Q
        exact b_X2_readHabits_31 (h υ ((hF.tr f).tr f2) (by rw [eq1]; exact hd))
    · show WP mX2_readHabits 11 [vR 3 0, vU] [vI 2] τ Q
      rw [en] at eq1
      exact dH11 hd (fun υ f2 hd2 => h υ ((hF.tr f).tr f2) (by rw [eq1]; exact hd2))
  · show WP mX2_readHabits 5 [vR 3 0, vU] [] τ Q
    refine dH5 hd (fun υ f2 hd2 => h υ (f.tr f2) ?_)
    unfold qHabits
    rcases hk with ⟨a, rfl⟩ | ⟨a, b, rfl⟩
    · rw [if_pos a]; exact hd2
    · rw [if_neg a, if_pos b]; exact hd2
end Rd2
