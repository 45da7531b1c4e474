/-! ===== valley: both answer the same ===== -/
def cvP (c i j : Nat) : Prop := (c = 3 ∧ i = 0 ∧ 2 ≤ j) ∨ (i = 2 ∧ (c = 10 ∨ (54 ≤ c ∧ c ≤ 61))) ∨ (c = 8 ∧ i = 0 ∧ j = 1) ∨ (i = 0 ∧ (c = 10 ∨ (54 ≤ c ∧ c ≤ 61))) ∨ (i = 0 ∧ ((c = 2 ∧ 4 ≤ j ∧ j ≤ 6) ∨ (c = 7 ∧ j ≤ 2))) ∨ fgP c i j
section PrVal
variable {σ τ : St} {V : Vy}
theorem pr_valley (hI : INV V σ) : PRC mX11_valley mX13_valley [vR 12 0] [vR 14 0, vU, vU] σ := by
  obtain ⟨iv, itp, ift, ild, icc, imd, iwy, itr, ifl, irn, ijd, isn⟩ := id hI
  obtain ⟨t1, t2, t3⟩ := itp
  obtain ⟨I, eI1, eI2⟩ : ∃ I : TXT, σ 8 0 1 = (I.1 : Int) ∧ ∀ k, I.2 k = band (σ 46 0 k) 255 := ⟨((σ 8 0 1).toNat, fun k => band (σ 46 0 k) 255), by show σ 8 0 1 = (((σ 8 0 1).toNat : Nat) : Int); omega, fun k => rfl⟩
  have hI7 : I.1 ≤ 700 := by omega
  have hT : TPc σ I := ⟨eI1, hI7, fun k hk => by
    have a := t3 k (by omega)
    have b := b255 a.2.1 a.2.2
    rw [eI2 k]
    exact ⟨rfl, b⟩⟩
  refine b_X11_valley_0 (c_readValley hT (fun τ D n hq hD f e2 e3 e4 hV => ?_) (fun τ k pl hq f e2 hk e3 => ?_))
  · show WP mX11_valley 7 [vR 12 0] [] τ _
    have hVk := vok_mV hD
    refine b_X11_valley_7 ⟨fun _ => ?_, fun z => absurd e2 z⟩
    have hV1 : VT (up τ 8 0 1 0) 2 (mV D) := by
      obtain ⟨a1, a2, a3, a4, a5, a6, a7, a8⟩ := hV
      exact ⟨by simp [up, a1], by simp [up, a2], by simp [up, a3], by simp [up, a4], fun j hj => by simp [up, a5 j hj], fun j hj => by simp [up, a6 j hj], fun j hj => by simp [up, a7 j hj], fun j hj => by simp [up, a8 j hj]⟩
    refine c_copyFrom (by omega) hVk hV1 (fun υ f2 hA e10 => ?_)
    show WP mX11_valley 44 [vR 12 0] [] υ _
    refine b_X11_valley_44 (b_X1_change_0 ?_)
    show WP mX11_valley 51 [vR 12 0] [] _ _
    refine b_X11_valley_51 (b_X6_clear_0 ?_)
    show WP mX11_valley 58 [vR 12 0] [] _ _
    have F3 : FR (fun c i j => i = 0 ∧ ((c = 2 ∧ 4 ≤ j ∧ j ≤ 6) ∨ (c = 7 ∧ j ≤ 2))) υ (up (up (up (up (up (up υ 2 0 4 0) 2 0 5 0) 2 0 6 0) 7 0 0 0) 7 0 1 0) 7 0 2 0) := (((((FR.rf.u (by omega)).u (by omega)).u (by omega)).u (by omega)).u (by omega)).u (by omega)
    have S3 : ∀ ρ, ρ = (up (up (up (up (up (up υ 2 0 4 0) 2 0 5 0) 2 0 6 0) 7 0 0 0) 7 0 1 0) 7 0 2 0) → (ρ 2 0 4 = 0 ∧ ρ 2 0 5 = 0 ∧ ρ 2 0 6 = 0 ∧ ρ 7 0 0 = 0 ∧ ρ 7 0 1 = 0 ∧ ρ 7 0 2 = 0) := fun ρ e => by subst e; refine ⟨?_, ?_, ?_, ?_, ?_, ?_⟩ <;> simp [up]
    replace S3 := S3 _ rfl
    generalize (up (up (up (up (up (up υ 2 0 4 0) 2 0 5 0) 2 0 6 0) 7 0 0 0) 7 0 1 0) 7 0 2 0) = ρ at *
    refine b_X11_valley_58 (c_forget (fun ω f4 fg1 fg2 fg3 fg4 fg5 => ?_))
    show WP mX11_valley 62 [vR 12 0] [] ω _
    have w10 : ω 10 0 4 = n := by
      rw [f4 10 0 4 (by unfold fgP; omega), F3 10 0 4 (by omega), e10]
      simp [up, e4]
    refine b_X11_valley_62 ?_
    rw [w10]
    -- the class' part as a frame
    have A1 : FR cvP σ τ := f.wk (fun c i j z => z.elim Or.inl (fun w => Or.inr (Or.inl w)))
    have A2 : FR cvP σ (up τ 8 0 1 0) := A1.u (Or.inr (Or.inr (Or.inl ⟨rfl, rfl, rfl⟩)))
    have A3 : FR cvP (up τ 8 0 1 0) υ := f2.wk (fun c i j z => Or.inr (Or.inr (Or.inr (Or.inl z))))
    have A4 : FR cvP υ ρ := F3.wk (fun c i j z => Or.inr (Or.inr (Or.inr (Or.inr (Or.inl z)))))
    have A5 : FR cvP ρ ω := f4.wk (fun c i j z => Or.inr (Or.inr (Or.inr (Or.inr (Or.inr z)))))
    have FC : FR cvP σ ω := ((A2.tr A3).tr A4).tr A5
    have gM : ∀ c i j, c = 14 ∨ 66 ≤ c → ω c i j = σ c i j := fun c i j hc => FC c i j (by unfold cvP fgP; omega)
    have wA : VA ω 0 (mV D) := (hA.fr F3 (fun c k hc => by omega)).fr f4 (fun c k hc => by unfold fgP; omega)
    refine ⟨n, rfl, d_valley (I := I) (by rw [gM 14 0 2 (by omega), ← t1]; exact eI1) hI7 (fun k hk => ?_) (by rw [gM 14 0 35 (by omega)]; exact iv.2.2.2.2.1) (by rw [gM 14 0 36 (by omega)]; exact iv.2.2.1.2.2.2.2.2.2.2.2) (fun ω2 D2 n2 hq2 hD2 f5 hM m12 m13 m37 m2 m8 m9 mz => ?_) (fun ω2 k pl hq2 _ _ _ => ?_)⟩
    · have a := t3 k (by omega)
      have b := b255 a.2.1 a.2.2
      rw [gM 66 0 k (by omega), eI2 k, ← a.1]
      exact ⟨rfl, b, a.2⟩
    · rw [hq] at hq2
      cases hq2
      refine ⟨rfl, mV D, ?_⟩
      have gC : ∀ c i j, c < 14 ∨ (20 ≤ c ∧ c < 66) → ω2 c i j = ω c i j := fun c i j hc => f5 c i j (by unfold vmP; omega)
      obtain ⟨z83, z84, z85, z55, z62, z71, z76⟩ := mz
      obtain ⟨r4, r5, r6, r70, r71, r72⟩ := S3
      have q3 : ∀ c j, ¬ fgP c 0 j → ω2 c 0 j = ρ c 0 j ∨ ¬ (c < 14) := fun c j hn => by
        by_cases hc : c < 14
        · exact Or.inl ((gC c 0 j (Or.inl hc)).trans (f4 c 0 j hn))
        · exact Or.inr hc
      have q4 : ∀ c j, c < 14 → ¬ fgP c 0 j → ω2 c 0 j = ρ c 0 j := fun c j hc hn => (q3 c j hn).resolve_right (fun z => z hc)
      refine ⟨⟨hVk, wA.fr f5 (fun c k hc => by unfold vmP; omega), hM, m12, ?_, ?_⟩, ⟨?_, ?_, fun k hk => ?_⟩, ⟨?_, ?_⟩, ⟨⟨fun z => ?_, fun z => ?_⟩, fun _ => ?_, fun k k0 hk => ?_, fun z => ?_⟩, ⟨Or.inl ?_, Or.inl ?_, fun x hx => ⟨Or.inl ?_, Or.inl ?_⟩⟩, fun z => absurd m37 z, Or.inl ⟨z55, ?_⟩, Or.inl ⟨z62, ?_⟩, Or.inl ⟨?_, z71⟩, Or.inl ⟨?_, z76⟩, ?_, ?_⟩
      · rw [f5 14 0 35 (by unfold vmP; omega), gM 14 0 35 (by omega)]; exact iv.2.2.2.2.1
      · rw [gC 10 0 4 (by omega), w10, m13]
      · rw [gC 8 0 1 (by omega), m2, f4 8 0 1 (by unfold fgP; omega), F3 8 0 1 (by omega), f2 8 0 1 (by unfold cpP; omega)]; simp [up]
      · rw [gC 8 0 1 (by omega), f4 8 0 1 (by unfold fgP; omega), F3 8 0 1 (by omega), f2 8 0 1 (by unfold cpP; omega)]; simp [up]
      · rw [gC 46 0 k (by omega), FC 46 0 k (by unfold cvP fgP; omega), f5 66 0 k (by unfold vmP; omega), gM 66 0 k (by omega)]; exact t3 k hk
      · rw [q4 3 2 (by omega) (by unfold fgP; omega), F3 3 0 2 (by omega), f2 3 0 2 (by unfold cpP; omega), m8]; simp [up, e2]
      · rw [q4 3 3 (by omega) (by unfold fgP; omega), F3 3 0 3 (by omega), f2 3 0 3 (by unfold cpP; omega), m9]; simp [up, e3]
      · rw [q4 2 4 (by omega) (by unfold fgP; omega)] at z; exact absurd r4 z
      · rw [q4 2 5 (by omega) (by unfold fgP; omega)] at z; exact absurd r5 z
      · rw [gC 12 0 15 (by omega)]; exact fg1.2.1
      · rw [gC 12 0 15 (by omega), fg1.2.1] at hk; omega
      · rw [q4 2 6 (by omega) (by unfold fgP; omega)] at z; exact absurd r6 z
      · rw [gC 12 0 16 (by omega)]; exact fg1.2.2.1
      · rw [gC 12 0 17 (by omega)]; exact fg1.2.2.2
      · have := hVk.ha; rw [gC 64 0 x (by omega)]; exact (fg2 x (by omega)).1
      · have := hVk.ha; rw [gC 65 0 x (by omega)]; exact (fg2 x (by omega)).2
      · rw [gC 12 0 14 (by omega)]; exact fg1.1
      · rw [gC 9 0 0 (by omega)]; exact fg3
      · rw [gC 1 0 0 (by omega)]; exact fg4
      · rw [gC 11 0 0 (by omega)]; exact fg5
      · exact (ijd.fr FC (by unfold cvP fgP; omega)).fr f5 (by unfold vmP; omega)
      · have s0 : ω2 7 0 0 = 0 := by rw [q4 7 0 (by omega) (by unfold fgP; omega)]; exact r70
        have s1 : ω2 7 0 1 = 0 := by rw [q4 7 1 (by omega) (by unfold fgP; omega)]; exact r71
        have s2 : ω2 7 0 2 = 0 := by rw [q4 7 2 (by omega) (by unfold fgP; omega)]; exact r72
        refine ⟨by rw [s0, z83], by rw [s1, z84], by rw [s2, z85], by rw [s0]; omega, by rw [s1]; omega, by rw [s2]; omega, fun k hk => ?_, fun k hk => ?_⟩
        · rw [s0] at hk; omega
        · rw [s1] at hk; omega
    · rw [hq] at hq2; cases hq2
  · show WP mX11_valley 7 [vR 12 0] [] τ _
    refine b_X11_valley_7 ⟨fun z => absurd (e2.symm.trans z) hk, fun _ => ?_⟩
    have FC : FR (fun c i j => (c = 3 ∧ i = 0 ∧ 2 ≤ j) ∨ (i = 2 ∧ (c = 10 ∨ (54 ≤ c ∧ c ≤ 61))) ∨ (c = 8 ∧ i = 0 ∧ j = 1)) σ (up τ 8 0 1 0) := (f.wk (fun c i j z => by unfold rvP at z; omega)).u (by omega)
    have u1 : (up τ 8 0 1 0) 8 0 1 = 0 := by simp [up]
    have u2 : (up τ 8 0 1 0) 3 0 2 = k := by simp [up, e2]
    have u3 : (up τ 8 0 1 0) 3 0 3 = (pl : Int) := by simp [up, e3]
    generalize (up τ 8 0 1 0) = ω at *
    have gM : ∀ c i j, c = 14 ∨ 66 ≤ c → ω c i j = σ c i j := fun c i j hc => FC c i j (by omega)
    refine ⟨-1, rfl, d_valley (I := I) (by rw [gM 14 0 2 (by omega), ← t1]; exact eI1) hI7 (fun k hk => ?_) (by rw [gM 14 0 35 (by omega)]; exact iv.2.2.2.2.1) (by rw [gM 14 0 36 (by omega)]; exact iv.2.2.1.2.2.2.2.2.2.2.2) (fun ω2 D2 n2 hq2 _ _ _ _ _ _ _ _ _ _ => ?_) (fun ω2 k2 pl2 hq2 f5 m2 ht => ?_)⟩
    · have a := t3 k (by omega)
      have b := b255 a.2.1 a.2.2
      rw [gM 66 0 k (by omega), eI2 k, ← a.1]
      exact ⟨rfl, b, a.2⟩
    · rw [hq] at hq2; cases hq2
    · rw [hq] at hq2
      cases hq2
      refine ⟨rfl, V, ?_⟩
      refine ⟨(iv.fr FC (by omega)).fr f5 (by omega), ⟨?_, ?_, fun j hj => ?_⟩, ⟨?_, ?_⟩, (ild.fr FC (by omega)).fr f5 (by omega), (icc.fr FC (by omega)).fr f5 (by omega), (imd.fr FC (by omega)).fr f5 (by omega), (iwy.fr FC (by omega)).fr f5 (by omega), (itr.fr FC (by omega)).fr f5 (by omega), (ifl.fr FC (by omega)).fr f5 (by omega), (irn.fr FC (by omega)).fr f5 (by omega), (ijd.fr FC (by omega)).fr f5 (by omega), (isn.fr FC (by omega)).fr f5 (by omega)⟩
      · rw [f5 8 0 1 (by omega), u1, m2]
      · rw [f5 8 0 1 (by omega), u1]; omega
      · rw [f5 46 0 j (by omega), FC 46 0 j (by omega), f5 66 0 j (by omega), gM 66 0 j (by omega)]; exact t3 j hj
      · rw [f5 3 0 2 (by omega), u2]; exact ht.1.symm
      · rw [f5 3 0 3 (by omega), u3]; exact ht.2.2.symm
end PrVal
