/-! ===== the class' readValley, valley ===== -/
def mV (D : PSt) : Vy := (D.1.1, D.1.2.1, D.1.2.2.1, (fun p => if D.2.1 4 = 1 then me D.1 p else if (p : Int) < pe D.1 then mAll (pe D.1) (p : Int) else me D.1 p), D.1.2.2.2.2)
def V0 : Vy := ((fun k => if k = 0 then 4 else if k = 1 then 2 else 0), (fun j => if j % 5 = 0 then 1 else 0), (fun _ => 1), (fun _ => 0), (fun _ => -1))
def D0 : PSt := (V0, (fun _ => 0), (fun _ => 0), (fun _ => 0))
theorem dok0 : DOK D0 := by
  refine ⟨by decide, by decide, by decide, by decide, by decide, fun j _ => ?_, fun j _ => by show (1 : Int) ≤ 1 ∧ (1 : Int) ≤ 3; omega, fun j _ => by show (0 : Int) ≤ 0 ∧ (0 : Int) < 1024; omega, fun p _ => Or.inl rfl, fun _ => Or.inl rfl, fun _ => Or.inl rfl, fun _ => Or.inl rfl, fun _ _ _ => rfl⟩
  show 0 ≤ (if j % 5 = 0 then (1 : Int) else 0) ∧ (if j % 5 = 0 then (1 : Int) else 0) ≤ 99
  split <;> omega
theorem vok_mV {D : PSt} (hD : DOK D) : VOK (mV D) := by
  obtain ⟨a1, a2, a3, a4, a5, a6, a7, a8, a9, a10, a11, a12, a13⟩ := hD
  refine ⟨a1, a2, a3, a4, a5, fun j hj => ?_, a7, fun j hj => ?_, fun p hp => a9 p (by have : (p : Int) < pe D.1 := hp; omega)⟩
  · have := a6 j hj
    show 0 ≤ ge D.1 j ∧ ge D.1 j ≤ 198
    omega
  · show 0 ≤ (if D.2.1 4 = 1 then me D.1 j else if (j : Int) < pe D.1 then mAll (pe D.1) (j : Int) else me D.1 j) ∧ (if D.2.1 4 = 1 then me D.1 j else if (j : Int) < pe D.1 then mAll (pe D.1) (j : Int) else me D.1 j) < 1024
    split
    · exact a8 j hj
    · split
      · exact mAll_bd (by omega) (by omega) (by omega) (by omega)
      · exact a8 j hj
theorem qP_ok {I : TXT} {f s e : Nat} {D D' : PSt} {n : Int} (z : ¬ tK I s = 0) (h : qC I D s = .inl (D', e)) : qP I (f + 1) D s n = qP I f D' (nx I e) (n + 1) := by rw [qP, if_neg z, h]
theorem qP_no {I : TXT} {f s : Nat} {D : PSt} {n : Int} {x : Int × Nat} (z : ¬ tK I s = 0) (h : qC I D s = .inr x) : qP I (f + 1) D s n = .inr x := by rw [qP, if_neg z, h]
def rvP (c i j : Nat) : Prop := (c = 3 ∧ i = 0 ∧ 2 ≤ j) ∨ (i = 2 ∧ (c = 10 ∨ (54 ≤ c ∧ c ≤ 61)))
section Rd5
variable {σ τ : St} {Q : Res → St → Prop} {I : TXT} {s : Nat} {D : PSt} {k : Int} {pl : Nat}
theorem rc_rv (f : FR rcP σ τ) : FR rvP σ τ := f.wk (fun c i j z => by unfold rcP at z; unfold rvP; omega)
theorem DRc.s4 {v : Int} (h : DRc σ D) : DRc (up σ 10 2 4 v) D := by
  obtain ⟨⟨a0, a1, a2, a3, a4⟩, b1, b2, b3, b4, c1, c2, c3, c4⟩ := h
  exact ⟨⟨by simp [up]; exact a0, by simp [up]; exact a1, by simp [up]; exact a2, by simp [up]; exact a3, by simp [up]; exact a4⟩, fun j hj => by simp [up]; exact b1 j hj, fun j hj => by simp [up]; exact b2 j hj, fun j hj => by simp [up]; exact b3 j hj, fun j hj => by simp [up]; exact b4 j hj, by simp [up]; exact c1, by simpa [up] using c2, by simpa [up] using c3, by simp [up]; exact c4⟩
/-- the end of a text without fault: all meet all if none was told, then settle -/
theorem c_rvEnd (hL : LV σ I s D) (hD : DOK D) (h : ∀ τ, FR rvP σ τ → τ 3 0 2 = 0 → τ 3 0 3 = -1 → τ 10 2 4 = σ 10 2 4 → VT τ 2 (mV D) → Q (.inl none) τ) : ((band (σ 3 0 8) 16 ≠ 0 → WP mX2_readValley 82 [vR 3 0, vU] [] σ Q) ∧ (band (σ 3 0 8) 16 = 0 → WP mX9_meetAll 0 [vR 10 2, vU] [] σ (CT mX2_readValley 82 [vR 3 0, vU] [] Q))) := by
  have tb := told_b hD hL.2.2.2.2
  have hV := vok_mV hD
  obtain ⟨⟨a0, a1, a2, a3, a4⟩, b1, b2, b3, b4, c1, c2, c3, c4⟩ := hL.2.2.2.2
  have fin : ∀ τ, FR rvP σ τ → τ 3 0 2 = 0 → τ 3 0 3 = -1 → τ 10 2 4 = σ 10 2 4 → VT τ 2 (mV D) → WP mX2_readValley 82 [vR 3 0, vU] [] τ Q := fun τ f e2 e3 e4 hT => by
    refine b_X2_readValley_82 (c_settle hV hT (fun υ f2 hA => ?_))
    show WP mX2_readValley 89 [vU, vU] [] υ Q
    refine b_X2_readValley_89 (h υ (f.tr (f2.wk (fun c i j z => by unfold zP at z; unfold rvP; omega))) ?_ ?_ ?_ hA.1)
    · rw [f2 3 0 2 (by unfold zP; omega)]; exact e2
    · rw [f2 3 0 3 (by unfold zP; omega)]; exact e3
    · rw [f2 10 2 4 (by unfold zP; omega)]; exact e4
  refine ⟨fun z => ?_, fun z => ?_⟩
  · have h4 := tb.1.2.2.2.2.mp z
    refine fin σ FR.rf hL.1 a4 rfl ⟨a0, a1, a2, a3, b1, b2, fun j hj => ?_, b4⟩
    rw [b3 j hj]
    show me D.1 j = if D.2.1 4 = 1 then me D.1 j else _
    rw [if_pos h4]
  · have h4 : ¬ D.2.1 4 = 1 := fun q => tb.1.2.2.2.2.mpr q z
    obtain ⟨n, en, n2, n10⟩ : ∃ n : Nat, pe D.1 = (n : Int) ∧ 2 ≤ n ∧ n ≤ 10 := ⟨(pe D.1).toNat, by have := hD.1; omega, by have := hD.1; omega, by have := hD.1; omega⟩
    refine c_meetAll (n := n) (by rw [a0, en]) n2 n10 (fun τ f hm => ?_)
    show WP mX2_readValley 82 [vR 3 0, vU] [] τ Q
    have g : ∀ c i j, ¬ (c = 56 ∧ i = 2) → τ c i j = σ c i j := f
    refine fin τ (f.wk (fun c i j z => by unfold rvP; omega)) (by rw [g 3 0 2 (by omega)]; exact hL.1) (by rw [g 3 0 3 (by omega)]; exact a4) (g 10 2 4 (by omega)) ⟨by rw [g 10 2 0 (by omega)]; exact a0, by rw [g 10 2 1 (by omega)]; exact a1, by rw [g 10 2 2 (by omega)]; exact a2, by rw [g 10 2 3 (by omega)]; exact a3, fun j hj => by rw [g 54 2 j (by omega)]; exact b1 j hj, fun j hj => by rw [g 55 2 j (by omega)]; exact b2 j hj, fun j hj => ?_, fun j hj => by rw [g 57 2 j (by omega)]; exact b4 j hj⟩
    rw [hm j hj]
    show _ = if D.2.1 4 = 1 then me D.1 j else if (j : Int) < pe D.1 then mAll (pe D.1) (j : Int) else me D.1 j
    rw [if_neg h4, en]
    by_cases q : j < n
    · rw [if_pos q, if_pos (by omega)]
    · rw [if_neg q, if_neg (by omega)]; exact b3 j hj
theorem c_rv : ∀ (f : Nat) {i : Int} {s : Nat} {D : PSt} {σ : St} {n : Int}, LV σ I s D → DOK D → I.1 < s + f → 0 ≤ i → i ≤ s → σ 10 2 4 = n → 0 ≤ n → n ≤ s →
    (∀ τ D' n', qP I f D s n = .inl (D', n') → DOK D' → FR rvP σ τ → τ 3 0 2 = 0 → τ 3 0 3 = -1 → τ 10 2 4 = n' → VT τ 2 (mV D') → Q (.inl none) τ) → (∀ τ k pl, qP I f D s n = .inr (k, pl) → FR rvP σ τ → τ 3 0 2 = k → k ≠ 0 → τ 3 0 3 = (pl : Int) → Q (.inl none) τ) → WP mX2_readValley 10 [vR 3 0, vI i] [] σ Q := by
  intro f
  induction f with
  | zero => intro i s D σ n hL hD hf; have := hL.2.2.1; omega
  | succ f ih =>
    intro i s D σ n hL hD hf hi0 his en hn0 hns h1 h2
    have hL7 := hL.2.1.2.1
    have hsl := hL.2.2.1
    have e5 : σ 3 0 5 = tK I s := hL.2.2.2.1.2.2.1
    by_cases z : tK I s = 0
    · have eq : qP I (f + 1) D s n = .inl (D, n) := by rw [qP, if_pos z]
      have fin := c_rvEnd (Q := Q) hL hD (fun τ f1 a b c d => h1 τ D n eq hD f1 a b (by rw [c, en]) d)
      refine b_X2_readValley_10 ⟨fun _ => ⟨fun q => absurd hL.1 q, fun _ => fin⟩, fun _ => ⟨fun q => absurd hL.1 q, fun _ => ⟨fun _ => ⟨fun q => absurd hL.1 q, fun _ => fin⟩, fun q => absurd (e5.trans z) q⟩⟩⟩
    · have hsL := tK_lt z
      refine b_X2_readValley_10 ⟨fun q => by omega, fun _ => ⟨fun q => absurd hL.1 q, fun _ => ⟨fun q => absurd (e5.symm.trans q) z, fun _ => c_clause hL hD hsL (fun τ f1 hr => ?_)⟩⟩⟩
      show WP mX2_readValley 35 [vR 3 0, vI i] [] τ Q
      have e4 : τ 10 2 4 = n := by rw [f1 10 2 4 (by unfold rcP; omega)]; exact en
      have F1 := rc_rv f1
      match hX : qC I D s, hr with
      | .inl (D', e), hr =>
        have hr : LV τ I e D' := hr
        obtain ⟨o1, o2, o3⟩ := ok_c hD hsL hX
        have b1 := nx_gt o3
        have eq0 := qP_ok (f := f) (n := n) z hX
        refine b_X2_readValley_35 ?_
        rw [e4]
        have L2 : LV (up τ 10 2 4 (n + 1)) I e D' := hr.w (by omega) hr.2.2.2.2.s4
        refine ⟨by unfold in32; omega, c_nt L2 (fun υ f2 L3 => ?_)⟩
        show WP mX2_readValley 52 [vR 3 0, vI i] [] υ Q
        have F3 : FR rvP σ υ := (F1.u (by unfold rvP; omega)).tr (rc_rv f2)
        have e6 : υ 10 2 4 = n + 1 := by rw [f2 10 2 4 (by unfold rcP; omega)]; simp [up]
        exact b_X2_readValley_52 ⟨by unfold in32; omega, ih L3 o1 (by omega) (by omega) (by omega) e6 (by omega) (by omega) (fun ω D2 n2 q a b c d g w => h1 ω D2 n2 (by rw [eq0]; exact q) a (F3.tr b) c d g w) (fun ω k pl q a b c d => h2 ω k pl (by rw [eq0]; exact q) (F3.tr a) b c d)⟩
      | .inr (k, pl), hd =>
        have hd : DEd τ I k pl := hd
        have eq0 := qP_no (f := f) (n := n) z hX
        refine b_X2_readValley_35 ?_
        rw [e4]
        refine ⟨by unfold in32; omega, c_ntD (hd.w (by omega)) ?_⟩
        show WP mX2_readValley 52 [vR 3 0, vI i] [] _ Q
        have e2 : (up τ 10 2 4 (n + 1)) 3 0 2 = k := by simp [up, hd.1]
        have e3 : (up τ 10 2 4 (n + 1)) 3 0 3 = (pl : Int) := by simp [up, hd.2.2.1]
        have out : WP mX2_readValley 89 [vU, vU] [] (up τ 10 2 4 (n + 1)) Q := b_X2_readValley_89 (h2 _ k pl eq0 (F1.u (by unfold rvP; omega)) e2 hd.2.1 e3)
        have no : ∀ {P : Prop}, (up τ 10 2 4 (n + 1)) 3 0 2 = 0 → P := fun q => absurd (e2.symm.trans q) hd.2.1
        exact b_X2_readValley_52 ⟨by unfold in32; omega, b_X2_readValley_10 ⟨fun _ => ⟨fun _ => out, fun q => no q⟩, fun _ => ⟨fun _ => ⟨fun _ => out, fun q => no q⟩, fun q => no q⟩⟩⟩
/-- what valley() reads, from its tape alone -/
noncomputable def qV (I : TXT) : (PSt × Int) ⊕ (Int × Nat) := qP I 702 D0 (tS I 0) 0
theorem c_readValley (hT : TPc σ I) (h1 : ∀ τ D' n', qV I = .inl (D', n') → DOK D' → FR rvP σ τ → τ 3 0 2 = 0 → τ 3 0 3 = -1 → τ 10 2 4 = n' → VT τ 2 (mV D') → Q (.inl none) τ) (h2 : ∀ τ k pl, qV I = .inr (k, pl) → FR rvP σ τ → τ 3 0 2 = k → k ≠ 0 → τ 3 0 3 = (pl : Int) → Q (.inl none) τ) : WP mX2_readValley 0 [vR 3 0, vU] [] σ Q := by
  refine b_X2_readValley_0 (b_X2_begin_0 (c_clear (fun τ f ⟨e0, e1, e2, e3, e4⟩ g1 g2 g3 g4 => ?_)))
  show WP mX2_begin 7 [vR 3 0] [] τ _
  refine b_X2_begin_7 ?_
  show WP mX2_readValley 4 [vR 3 0, vU] [] _ Q
  have F1 : FR rvP σ (up (up (up (up (up (up (up τ 3 0 2 0) 3 0 3 (-1)) 3 0 4 0) 3 0 8 0) 3 0 9 0) 3 0 10 0) 3 0 11 0) := (((((((f.wk (fun c i j z => by unfold clP at z; unfold rvP; omega)).u (by unfold rvP; omega)).u (by unfold rvP; omega)).u (by unfold rvP; omega)).u (by unfold rvP; omega)).u (by unfold rvP; omega)).u (by unfold rvP; omega)).u (by unfold rvP; omega)
  have R0 : DRc (up (up (up (up (up (up (up τ 3 0 2 0) 3 0 3 (-1)) 3 0 4 0) 3 0 8 0) 3 0 9 0) 3 0 10 0) 3 0 11 0) D0 := by
    refine ⟨⟨by simp [up]; exact e0, by simp [up]; exact e1, by simp [up]; exact e2, by simp [up]; exact e3, by simp [up]⟩, fun j hj => by simp [up]; exact g1 j hj, fun j hj => by simp [up]; exact g2 j hj, fun j hj => by simp [up]; exact g3 j hj, fun j hj => by simp [up]; exact g4 j hj, by simp [up]; rfl, ⟨⟨by simp [up], by simp [up]⟩, fun j hj => ?_⟩, ⟨⟨by simp [up], by simp [up]⟩, fun j hj => ?_⟩, by simp [up]; rfl⟩
    · have e : (up (up (up (up (up (up (up τ 3 0 2 0) 3 0 3 (-1)) 3 0 4 0) 3 0 8 0) 3 0 9 0) 3 0 10 0) 3 0 11 0) 3 0 9 = 0 := by simp [up]
      rw [e]
      exact ⟨fun z => absurd z (tbit_0 j), fun z => absurd z (by show ¬ (0 : Int) = 1; omega)⟩
    · have e : (up (up (up (up (up (up (up τ 3 0 2 0) 3 0 3 (-1)) 3 0 4 0) 3 0 8 0) 3 0 9 0) 3 0 10 0) 3 0 11 0) 3 0 10 = 0 := by simp [up]
      rw [e]
      exact ⟨fun z => absurd z (tbit_0 j), fun z => absurd z (by show ¬ (0 : Int) = 1; omega)⟩
  have k2 : (up (up (up (up (up (up (up τ 3 0 2 0) 3 0 3 (-1)) 3 0 4 0) 3 0 8 0) 3 0 9 0) 3 0 10 0) 3 0 11 0) 3 0 2 = 0 := by simp [up]
  have k4 : (up (up (up (up (up (up (up τ 3 0 2 0) 3 0 3 (-1)) 3 0 4 0) 3 0 8 0) 3 0 9 0) 3 0 10 0) 3 0 11 0) 3 0 4 = ((0 : Nat) : Int) := by simp [up]
  have kc : (up (up (up (up (up (up (up τ 3 0 2 0) 3 0 3 (-1)) 3 0 4 0) 3 0 8 0) 3 0 9 0) 3 0 10 0) 3 0 11 0) 10 2 4 = 0 := by simp [up, e4]
  have hT1 := hT.fr F1 (by unfold rvP; omega)
  generalize (up (up (up (up (up (up (up τ 3 0 2 0) 3 0 3 (-1)) 3 0 4 0) 3 0 8 0) 3 0 9 0) 3 0 10 0) 3 0 11 0) = υ at *
  have hL7 := hT.2.1
  refine b_X2_readValley_4 (c_nextToken k2 hT1 k4 (by omega) (fun ω f2 hk => ?_))
  show WP mX2_readValley 8 [vR 3 0, vU] [] ω Q
  have L0 : LV ω I (tS I 0) D0 := ⟨by rw [f2 3 0 2 (by unfold tcP; omega)]; exact k2, hT1.rc (tc_rc f2), tS_le (by omega), hk, R0.tc f2⟩
  have F2 := F1.tr (rc_rv (tc_rc f2))
  exact b_X2_readValley_8 (c_rv 702 L0 dok0 (by omega) (by omega) (by omega) (by rw [f2 10 2 4 (by unfold tcP; omega)]; exact kc) (by omega) (by omega) (fun ω2 D' n' a b c d e g w => h1 ω2 D' n' a b (F2.tr c) d e g w) (fun ω2 k pl a b c d e => h2 ω2 k pl a (F2.tr b) c d e))
end Rd5
