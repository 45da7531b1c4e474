/-! ===== the model's holdOne, staysBy, tree from pc 27 ===== -/
def mtP (c i j : Nat) : Prop := wwP c i j ∨ (i = 0 ∧ (c = 97 ∨ c = 99 ∨ (c = 14 ∧ (j = 62 ∨ j = 63 ∨ j = 64))))
section MTree
variable {σ : St} {Q : Res → St → Prop} {V : Vy}
theorem d_holdOne {N i y : Nat} (hN : σ 14 0 51 = (N : Nat)) (hN12 : N ≤ 12) (hi : i < N) (h : ∀ τ, FR (fun c i _ => c = 93 ∧ i = 0) σ τ → (∀ a b, a < 12 → b < 12 → wH τ a b = if a = i ∧ b < N ∧ b ≠ y then 1000000000 else wH σ a b) → Q (.inl none) τ) : WP mX13_holdOne 0 [vR 14 0, vI (i : Int), vI (y : Int), vU] [] σ Q := by
  refine b_X13_holdOne_0 ?_
  have key : ∀ m x : Nat, m + x = N → ∀ τ : St, FR (fun c i _ => c = 93 ∧ i = 0) σ τ → (∀ a b, a < 12 → b < 12 → wH τ a b = if a = i ∧ b < x ∧ b ≠ y then 1000000000 else wH σ a b) → WP mX13_holdOne 2 [vR 14 0, vI (i : Int), vI (y : Int), vI (x : Int)] [] τ Q := by
    intro m
    induction m with
    | zero =>
      intro x hx τ f1 hv
      have e51 : τ 14 0 51 = (N : Nat) := by rw [f1 14 0 51 (fun z => by omega)]; exact hN
      have hxN : x = N := by omega
      subst hxN
      exact b_X13_holdOne_2 ⟨fun _ => h τ f1 hv, fun z => by omega⟩
    | succ m ih =>
      intro x hx τ f1 hv
      have e51 : τ 14 0 51 = (N : Nat) := by rw [f1 14 0 51 (fun z => by omega)]; exact hN
      refine b_X13_holdOne_2 ⟨fun z => by omega, fun _ => ⟨fun e => ⟨by unfold in32; omega, ih (x + 1) (by omega) τ f1 (fun a b ha hb => ?_)⟩, fun hne => ⟨by unfold in32; omega, by unfold in32; omega, ⟨by omega, by omega⟩, by unfold in32; omega, ih (x + 1) (by omega) _ (f1.u ⟨rfl, rfl⟩) (fun a b ha hb => ?_)⟩⟩⟩
      · rw [hv a b ha hb]
        by_cases q : a = i ∧ b < x ∧ b ≠ y
        · rw [if_pos q, if_pos ⟨q.1, by omega, q.2.2⟩]
        · rw [if_neg q, if_neg (fun z => q ⟨z.1, by omega, z.2.2⟩)]
      · have e1 : (12 * (i : Int) + (x : Int)).toNat = 12 * i + x := by omega
        rw [e1]
        by_cases q : a = i ∧ b = x
        · unfold wH
          rw [q.1, q.2, up_s, if_pos ⟨rfl, by omega, by omega⟩]
        · have e2 : wH (up τ 93 0 (12 * i + x) 1000000000) a b = wH τ a b := up_j (fun z => q (by omega))
          rw [e2, hv a b ha hb]
          by_cases q2 : a = i ∧ b < x ∧ b ≠ y
          · rw [if_pos q2, if_pos ⟨q2.1, by omega, q2.2.2⟩]
          · rw [if_neg q2, if_neg (fun z => q2 ⟨z.1, by omega, z.2.2⟩)]
  exact key N 0 (by omega) σ FR.rf (fun a b ha hb => by rw [if_neg (fun z => by omega)])
def sbP (c i j : Nat) : Prop := smP c i j ∨ (i = 0 ∧ (c = 93 ∨ c = 99))
theorem d_staysBy {N i y root : Nat} {L : Int} (hN : σ 14 0 51 = (N : Nat)) (hN12 : N ≤ 12) (hi : i < N) (hr : root < N) (hw0 : ∀ a b, a < N → b < N → a ≠ b → 0 ≤ wH σ a b ∧ wH σ a b ≤ 1000000000 ∧ (wH σ a b < 1000000000 → wH σ a b ≤ 1000)) (hL : L < 1000000000) (h : ∀ τ, FR sbP σ τ → (∀ a b, a < 12 → b < 12 → wH τ a b = wH σ a b) → Q (.inl (some (vI (b2 (MTS N root (fun a b => wH σ a b < 1000000000 ∧ (a = i → b = y)) (wH σ) L))))) τ) : WP mX13_staysBy 0 [vR 14 0, vI (i : Int), vI (y : Int), vI (root : Int), vI L, vU, vU] [] σ Q := by
  refine b_X13_staysBy_0 ?_
  have back : ∀ (t0 : Int), t0 = b2 (MTS N root (fun a b => wH σ a b < 1000000000 ∧ (a = i → b = y)) (wH σ) L) → ∀ m x : Nat, m + x = 12 → ∀ τ : St, FR sbP σ τ → (∀ u, u < 12 → τ 99 0 u = wH σ i u) → (∀ a b, a < 12 → b < 12 → (a ≠ i ∨ b < x) → wH τ a b = wH σ a b) → WP mX13_staysBy 61 [vR 14 0, vI (i : Int), vU, vU, vU, vI t0, vI (x : Int)] [] τ Q := by
    intro t0 ht m
    induction m with
    | zero =>
      intro x hx τ f1 h99 hv
      refine b_X13_staysBy_61 ⟨fun _ => ⟨by rw [ht]; exact b2_01 _, by rw [ht]; exact h τ f1 (fun a b ha hb => hv a b ha hb (Or.inr (by omega)))⟩, fun z => by omega⟩
    | succ m ih =>
      intro x hx τ f1 h99 hv
      refine b_X13_staysBy_61 ⟨fun z => by omega, fun _ => ⟨by unfold in32; omega, by unfold in32; omega, ⟨by omega, by omega⟩, ⟨by omega, by omega⟩, by unfold in32; omega, ?_⟩⟩
      rw [Int.toNat_natCast, show (12 * (i : Int) + (x : Int)).toNat = 12 * i + x by omega]
      refine ih (x + 1) (by omega) _ (f1.u (Or.inr ⟨rfl, Or.inl rfl⟩)) (fun u hu => by rw [up_c (by omega)]; exact h99 u hu) (fun a b ha hb hab' => ?_)
      by_cases q : a = i ∧ b = x
      · unfold wH
        rw [q.1, q.2, up_s]
        exact h99 x (by omega)
      · have e2 : wH (up τ 93 0 (12 * i + x) (τ 99 0 x)) a b = wH τ a b := up_j (fun z => q (by omega))
        rw [e2]
        exact hv a b ha hb (by omega)
  have put : ∀ m x : Nat, m + x = 12 → ∀ τ : St, FR (fun c i _ => c = 99 ∧ i = 0) σ τ → (∀ u, u < x → τ 99 0 u = wH σ i u) → WP mX13_staysBy 3 [vR 14 0, vI (i : Int), vI (y : Int), vI (root : Int), vI L, vI (x : Int), vU] [] τ Q := by
    intro m
    induction m with
    | zero =>
      intro x hx τ f1 hv
      have e51 : τ 14 0 51 = (N : Nat) := by rw [f1 14 0 51 (fun z => by omega)]; exact hN
      have eW : ∀ a b, wH τ a b = wH σ a b := fun a b => f1 93 0 _ (fun z => by omega)
      refine b_X13_staysBy_3 ⟨fun _ => d_holdOne (N := N) e51 hN12 hi (fun υ f2 h2 => ?_), fun z => by omega⟩
      have e51' : υ 14 0 51 = (N : Nat) := by rw [f2 14 0 51 (fun z => by omega)]; exact e51
      show WP mX13_staysBy 41 [vR 14 0, vI (i : Int), vU, vI (root : Int), vI L, vU, vU] [] υ Q
      refine b_X13_staysBy_41 ?_
      have eU : ∀ a b, a < N → b < N → wH υ a b = if a = i ∧ b ≠ y then 1000000000 else wH σ a b := fun a b ha hb => by
        rw [h2 a b (by omega) (by omega), eW]
        by_cases q : a = i ∧ b ≠ y
        · rw [if_pos q, if_pos ⟨q.1, hb, q.2⟩]
        · rw [if_neg q, if_neg (fun z => q ⟨z.1, z.2.2⟩)]
      have adq : ∀ a b, a < N → b < N → a ≠ b → (wH υ a b < 1000000000 ↔ (wH σ a b < 1000000000 ∧ (a = i → b = y))) := fun a b ha hb hne => by
        rw [eU a b ha hb]
        by_cases q : a = i ∧ b ≠ y
        · rw [if_pos q]
          exact ⟨fun z => by omega, fun z => absurd (z.2 q.1) q.2⟩
        · rw [if_neg q]
          refine ⟨fun z => ⟨z, fun e => ?_⟩, fun z => z.1⟩
          apply Classical.byContradiction
          exact fun z => q ⟨e, z⟩
      have F2 : FR sbP σ υ := (f1.wk (fun c i j z => Or.inr ⟨z.2, Or.inr z.1⟩)).tr (f2.wk (fun c i j z => Or.inr ⟨z.2, Or.inl z.1⟩))
      have fin : ∀ (ω : St) (t0 : Int), FR smP υ ω → t0 = b2 (MTS N root (fun a b => wH σ a b < 1000000000 ∧ (a = i → b = y)) (wH σ) L) → WP mX13_staysBy 61 [vR 14 0, vI (i : Int), vU, vU, vU, vI t0, vI 0] [] ω Q := fun ω t0 o1 ht => by
        refine back t0 ht 12 0 (by omega) ω (F2.tr (o1.wk (fun c i j z => Or.inl z))) (fun u hu => ?_) (fun a b ha hb hab' => ?_)
        · rw [o1 99 0 u (fun z => by unfold smP at z; omega), f2 99 0 u (fun z => by omega)]
          exact hv u (by omega)
        · have : wH ω a b = wH υ a b := o1 93 0 _ (fun z => by unfold smP at z; omega)
          rw [this, h2 a b ha hb, eW, if_neg (fun z => by omega)]
      refine d_sumTo (N := N) e51' hN12 hr (fun a b ha hb hne => ?_) (fun ω x o1 o2 => ?_) (fun ω o1 hno => ?_)
      · rw [eU a b ha hb]
        by_cases q : a = i ∧ b ≠ y
        · rw [if_pos q]; exact ⟨by omega, by omega, fun z => by omega⟩
        · rw [if_neg q]; exact hw0 a b ha hb hne
      · have o3 : MTS N root (fun a b => wH σ a b < 1000000000 ∧ (a = i → b = y)) (wH σ) x := (o2.cga (w' := wH σ) (fun a b ha hb hne _ hd => by
          rw [eU a b ha hb, if_neg (fun z => ?_)]
          exact z.2 (((adq a b ha hb hne).mp hd).2 z.1))).ad adq
        show WP mX13_staysBy 46 [vR 14 0, vI (i : Int), vU, vU, vI L, vU, vU] [vI x] ω Q
        refine b_X13_staysBy_46 ⟨fun hne => fin ω 0 o1 ?_, fun he => fin ω 1 o1 ?_⟩
        · rw [b2_f (fun z => hne (o3.un z))]
        · rw [b2_t (by rw [← he]; exact o3)]
      · show WP mX13_staysBy 46 [vR 14 0, vI (i : Int), vU, vU, vI L, vU, vU] [vI 1000000000] ω Q
        refine b_X13_staysBy_46 ⟨fun hne => fin ω 0 o1 ?_, fun he => by omega⟩
        rw [b2_f]
        rintro ⟨⟨f, ⟨dp, hf⟩, _⟩, _⟩
        refine hno f ⟨dp, fun v hv' hne' => ?_⟩
        have q := hf v hv' hne'
        exact ⟨q.1, q.2.1, (adq v (f v) hv' q.1 (fun z => q.2.1 z.symm)).mpr q.2.2.1, q.2.2.2⟩
    | succ m ih =>
      intro x hx τ f1 hv
      refine b_X13_staysBy_3 ⟨fun z => by omega, fun _ => ⟨by unfold in32; omega, by unfold in32; omega, ⟨by omega, by omega⟩, ⟨by omega, by omega⟩, by unfold in32; omega, ?_⟩⟩
      rw [Int.toNat_natCast, show (12 * (i : Int) + (x : Int)).toNat = 12 * i + x by omega]
      refine ih (x + 1) (by omega) _ (f1.u ⟨rfl, rfl⟩) (fun u hu => ?_)
      by_cases e : u = x
      · rw [e, up_s]; exact f1 93 0 _ (fun z => by omega)
      · rw [up_j e]; exact hv u (by omega)
  exact put 12 0 (by omega) σ FR.rf (fun u hu => by omega)
def wC (σ : St) (a b : Nat) : Int := σ 92 0 (12 * a + b)
theorem CS.bd {τ : St} (hV : VOK V) (hS : MRS σ V) (hB : CS σ τ V) {a b : Nat} (ha : (a : Int) < σ 14 0 51) (hb : (b : Int) < σ 14 0 51) (hab' : a ≠ b) : 0 ≤ wC τ a b ∧ wC τ a b ≤ 30 := by
  obtain ⟨s, s1, s2⟩ := hS.1.2.2.2.1 (b : Int) (by omega) hb
  obtain ⟨t, t1, t2⟩ := hS.1.2.2.2.1 (a : Int) (by omega) ha
  obtain ⟨F, hD⟩ := dist_ex hV (Tg := fun x => ri σ x = (b : Int)) s1.1 s2
  unfold wC
  rw [(hB a b ha hb).2 hab' F hD t t1.1 t2]
  have := (hD t t1.1).1
  have := hD.le hV s1.1 s2 t t1.1
  omega
theorem d_tree {N root : Nat} (hV : VOK V) (hT : MT σ V) (hR : MRP σ V) (hS : MRS σ V) (hN : σ 14 0 51 = (N : Nat)) (hN12 : N ≤ 12) (hr : root < N) (h : ∀ τ L g, FR mtP σ τ → CS σ τ V → MTS N root (fun _ _ => True) (wC τ) L → GT N N root (wC τ) L g → τ 14 0 62 ≠ 0 → τ 14 0 64 = (N : Nat) → (∀ a, a < N → τ 97 0 a = if a = root then -1 else (g a : Int)) → Q (.inl (some (vI L))) τ) : WP mX13_findCosts 0 [vR 14 0, vU, vU] [] σ (CT mX13_tree 27 [vR 14 0, vI (root : Int), vU, vU, vU] [] Q) := by
  refine d_findCosts hV hT hR hS (by omega) (fun τ1 f1 hC => ?_)
  show WP mX13_tree 27 [vR 14 0, vI (root : Int), vU, vU, vU] [] τ1 Q
  refine b_X13_tree_27 (d_holdAll (fun τ0 f2 hH => ?_))
  show WP mX13_tree 31 [vR 14 0, vI (root : Int), vU, vU, vU] [] τ0 Q
  have e51 : τ0 14 0 51 = (N : Nat) := by
    rw [f2 14 0 51 (fun z => by omega), f1 14 0 51 (fun z => by unfold coP mkP at z; omega)]; exact hN
  have hbd : ∀ a b, a < N → b < N → a ≠ b → 0 ≤ wC τ1 a b ∧ wC τ1 a b ≤ 30 := fun a b ha hb hne => hC.bd hV hS (by omega) (by omega) hne
  have e0 : ∀ a b, a < N → b < N → wH τ0 a b = wC τ1 a b := fun a b ha hb => hH _ (by omega)
  refine b_X13_tree_31 (d_sumTo (N := N) e51 hN12 hr (fun a b ha hb hne => by rw [e0 a b ha hb]; have := hbd a b ha hb hne; exact ⟨by omega, by omega, fun _ => by omega⟩) (fun υ L u1 u2 => ?_) (fun υ u1 hno => ?_))
  · have hM : MTS N root (fun _ _ => True) (wC τ1) L := (u2.ad (ad' := fun _ _ => True) (fun a b ha hb hne => ⟨fun _ => trivial, fun _ => by rw [e0 a b ha hb]; have := hbd a b ha hb hne; omega⟩)).cg (fun a b ha hb _ => e0 a b ha hb)
    have hL := star (B := 30) hr (by omega) hbd hM
    obtain ⟨g, hG⟩ := GT.ex hM
    show WP mX13_tree 36 [vR 14 0, vI (root : Int), vU, vU, vU] [vI L] υ Q
    refine b_X13_tree_36 ?_
    have key : ∀ m i : Nat, m + i = N → ∀ τ : St, FR mtP σ τ → (∀ a b, a < N → b < N → wC τ a b = wC τ1 a b) → (∀ a b, a < N → b < N → a ≠ b → wH τ a b = if a < i ∧ a ≠ root ∧ b ≠ g a then 1000000000 else wC τ1 a b) → (∀ a, a < i → τ 97 0 a = if a = root then -1 else (g a : Int)) → WP mX13_tree 39 [vR 14 0, vI (root : Int), vI L, vI (i : Int), vU] [] τ Q := by
      intro m
      have e5 : ∀ υ, FR mtP σ υ → υ 14 0 51 = (N : Nat) := fun υ f => by rw [f 14 0 51 (fun z => by unfold mtP wwP coP smP mkP at z; omega)]; exact hN
      induction m with
      | zero =>
        intro i hi τ g1 g2 g3 g4
        have hiN : i = N := by omega
        subst hiN
        refine b_X13_tree_39 ⟨fun _ => ?_, fun z => by rw [e5 τ g1] at z; omega⟩
        have F3 : FR mtP σ (up (up (up τ 14 0 62 1) 14 0 63 (root : Int)) 14 0 64 (τ 14 0 51)) := ((g1.u (Or.inr ⟨rfl, by omega⟩)).u (Or.inr ⟨rfl, by omega⟩)).u (Or.inr ⟨rfl, by omega⟩)
        have c92 : ∀ x, (up (up (up τ 14 0 62 1) 14 0 63 (root : Int)) 14 0 64 (τ 14 0 51)) 92 0 x = τ 92 0 x := fun x => by rw [up_c (by omega), up_c (by omega), up_c (by omega)]
        have c97 : ∀ x, (up (up (up τ 14 0 62 1) 14 0 63 (root : Int)) 14 0 64 (τ 14 0 51)) 97 0 x = τ 97 0 x := fun x => by rw [up_c (by omega), up_c (by omega), up_c (by omega)]
        have c62 : (up (up (up τ 14 0 62 1) 14 0 63 (root : Int)) 14 0 64 (τ 14 0 51)) 14 0 62 = 1 := by rw [up_j (by omega), up_j (by omega), up_s]
        have c64 : (up (up (up τ 14 0 62 1) 14 0 63 (root : Int)) 14 0 64 (τ 14 0 51)) 14 0 64 = (i : Nat) := by rw [up_s]; exact e5 τ g1
        generalize (up (up (up τ 14 0 62 1) 14 0 63 (root : Int)) 14 0 64 (τ 14 0 51)) = ω at *
        have ew : ∀ a b, a < i → b < i → wC τ1 a b = wC ω a b := fun a b ha hb => by
          rw [← g2 a b ha hb]; unfold wC; rw [c92]
        refine h ω L g F3 (fun a b ha hb => ?_) (hM.cg (fun a b ha hb _ => ew a b ha hb)) (hG.cg (fun a b ha hb _ => ew a b ha hb)) (by rw [c62]; omega) c64 (fun a ha => by rw [c97]; exact g4 a ha)
        have e92 : ω 92 0 (12 * a + b) = τ1 92 0 (12 * a + b) := (ew a b (by omega) (by omega)).symm
        rw [e92]
        exact hC a b ha hb
      | succ m ih =>
        intro i hi τ g1 g2 g3 g4
        refine b_X13_tree_39 ⟨fun z => by rw [e5 τ g1] at z; omega, fun _ => ⟨⟨by omega, by omega⟩, fun hne => ?_, fun he => ?_⟩⟩
        · rw [Int.toNat_natCast]
          have hir : i ≠ root := fun z => hne (by omega)
          obtain ⟨q1, q2, q3, q4⟩ := hG i (by omega) hir
          have inner : ∀ r y : Nat, r + y = g i → ∀ ω : St, FR mtP σ ω → (∀ a b, a < N → b < N → wC ω a b = wC τ1 a b) → (∀ a b, a < N → b < N → a ≠ b → wH ω a b = if a < i ∧ a ≠ root ∧ b ≠ g a then 1000000000 else wC τ1 a b) → (∀ a, a < i → ω 97 0 a = if a = root then -1 else (g a : Int)) → ω 97 0 i = -1 → WP mX13_tree 65 [vR 14 0, vI (root : Int), vI L, vI (i : Int), vI (y : Int)] [] ω Q := by
            intro r
            have stay : ∀ (y : Nat) (ω : St), y < N → y ≠ i → FR mtP σ ω → (∀ a b, a < N → b < N → wC ω a b = wC τ1 a b) → (∀ a b, a < N → b < N → a ≠ b → wH ω a b = if a < i ∧ a ≠ root ∧ b ≠ g a then 1000000000 else wC τ1 a b) → (∀ a, a < i → ω 97 0 a = if a = root then -1 else (g a : Int)) → ω 97 0 i = -1 → (∀ ρ, FR mtP σ ρ → (∀ a b, a < N → b < N → wC ρ a b = wC τ1 a b) → (∀ a b, a < N → b < N → a ≠ b → wH ρ a b = if a < i ∧ a ≠ root ∧ b ≠ g a then 1000000000 else wC τ1 a b) → (∀ a, a < i → ρ 97 0 a = if a = root then -1 else (g a : Int)) → ρ 97 0 i = -1 → WP mX13_tree 108 [vR 14 0, vI (root : Int), vI L, vI (i : Int), vI (y : Int)] [vI (b2 (MTS N root (AD1 root i g y) (wC τ1) L))] ρ Q) → WP mX13_tree 65 [vR 14 0, vI (root : Int), vI L, vI (i : Int), vI (y : Int)] [] ω Q := fun y ω hy hyi o1 o2 o3 o4 o5 k => by
              have hwi := o3 i y (by omega) hy (fun z => hyi z.symm)
              rw [if_neg (fun z => by omega)] at hwi
              have hb1 := hbd i y (by omega) hy (fun z => hyi z.symm)
              unfold wH at hwi
              refine b_X13_tree_65 ?_
              rw [Int.toNat_natCast, show (12 * (i : Int) + (y : Int)).toNat = 12 * i + y by omega, hwi, o5]
              refine ⟨⟨by omega, by omega⟩, fun z => absurd rfl z, fun _ => ⟨fun z => by omega, fun _ => ⟨by unfold in32; omega, by unfold in32; omega, ⟨by omega, by omega⟩, fun z => by omega, fun _ => ?_⟩⟩⟩
              have wb : ∀ a b, a < N → b < N → a ≠ b → 0 ≤ wH ω a b ∧ wH ω a b ≤ 1000000000 ∧ (wH ω a b < 1000000000 → wH ω a b ≤ 1000) := fun a b ha hb hne' => by
                have := hbd a b ha hb hne'
                rw [o3 a b ha hb hne']
                by_cases q : a < i ∧ a ≠ root ∧ b ≠ g a
                · rw [if_pos q]; omega
                · rw [if_neg q]; omega
              have adq : ∀ a b, a < N → b < N → a ≠ b → ((wH ω a b < 1000000000 ∧ (a = i → b = y)) ↔ AD1 root i g y a b) := fun a b ha hb hne' => by
                have := hbd a b ha hb hne'
                rw [o3 a b ha hb hne']
                by_cases q : a < i ∧ a ≠ root ∧ b ≠ g a
                · rw [if_pos q]
                  exact ⟨fun z => by omega, fun z => absurd (z.1 q.1 q.2.1).symm q.2.2⟩
                · rw [if_neg q]
                  refine ⟨fun z => ⟨fun h1 h2 => ?_, z.2⟩, fun z => ⟨by omega, z.2⟩⟩
                  apply Classical.byContradiction
                  exact fun z2 => q ⟨h1, h2, fun z3 => z2 z3.symm⟩
              refine d_staysBy (N := N) (e5 ω o1) hN12 (by omega) hr wb (by omega) (fun ρ p1 p2 => ?_)
              have hiff : MTS N root (fun a b => wH ω a b < 1000000000 ∧ (a = i → b = y)) (wH ω) L ↔ MTS N root (AD1 root i g y) (wC τ1) L := by
                have e1 : ∀ a b, a < N → b < N → a ≠ b → a ≠ root → AD1 root i g y a b → wH ω a b = wC τ1 a b := fun a b ha hb hne' har hd => by
                  rw [o3 a b ha hb hne', if_neg (fun z => z.2.2 (hd.1 z.1 z.2.1).symm)]
                exact ⟨fun z => (z.ad adq).cga e1, fun z => (z.cga (w' := wH ω) (fun a b ha hb hne' har hd => (e1 a b ha hb hne' har hd).symm)).ad (fun a b ha hb hne' => (adq a b ha hb hne').symm)⟩
              show WP mX13_tree 108 [vR 14 0, vI (root : Int), vI L, vI (i : Int), vI (y : Int)] [vI (b2 (MTS N root (fun a b => wH ω a b < 1000000000 ∧ (a = i → b = y)) (wH ω) L))] ρ Q
              rw [b2_congr hiff]
              have c97 : ∀ x, ρ 97 0 x = ω 97 0 x := fun x => p1 97 0 x (fun z => by unfold sbP smP at z; omega)
              have c92 : ∀ x, ρ 92 0 x = ω 92 0 x := fun x => p1 92 0 x (fun z => by unfold sbP smP at z; omega)
              refine k ρ (o1.tr (p1.wk (fun c i j z => ?_))) (fun a b ha hb => by rw [← o2 a b ha hb]; exact c92 _) (fun a b ha hb hne' => by rw [p2 a b (by omega) (by omega)]; exact o3 a b ha hb hne') (fun a ha => by rw [c97]; exact o4 a ha) (by rw [c97]; exact o5)
              unfold sbP at z
              unfold mtP wwP
              rcases z with z | ⟨z1, z2 | z2⟩
              · exact Or.inl (Or.inr (Or.inr z))
              · exact Or.inl (Or.inr (Or.inl ⟨z2, z1⟩))
              · exact Or.inr ⟨z1, Or.inr (Or.inl z2)⟩
            induction r with
            | zero =>
              intro y hy ω o1 o2 o3 o4 o5
              have hy' : y = g i := by omega
              refine stay y ω (by omega) (by omega) o1 o2 o3 o4 o5 (fun ρ p1 p2 p3 p4 p5 => ?_)
              rw [hy', b2_t q3]
              refine b_X13_tree_108 ⟨fun z => by omega, fun _ => ⟨⟨by omega, by omega⟩, by unfold in32; omega, ?_⟩⟩
              rw [Int.toNat_natCast]
              refine b_X13_tree_65 ?_
              rw [Int.toNat_natCast, up_s]
              refine ⟨⟨by omega, by omega⟩, fun _ => ⟨⟨by omega, by omega⟩, ?_⟩, fun z => by omega⟩
              have P1 : FR mtP σ (up ρ 97 0 i (g i : Int)) := p1.u (Or.inr ⟨rfl, by omega⟩)
              refine d_holdOne (N := N) (e5 _ P1) hN12 (by omega) (fun κ k1 k2 => ?_)
              show WP mX13_tree 136 [vR 14 0, vI (root : Int), vI L, vI (i : Int), vU] [] κ Q
              have c97 : ∀ x, κ 97 0 x = (up ρ 97 0 i (g i : Int)) 97 0 x := fun x => k1 97 0 x (fun z => by omega)
              have cH : ∀ a b, wH (up ρ 97 0 i (g i : Int)) a b = wH ρ a b := fun a b => up_c (by omega)
              refine b_X13_tree_136 ⟨by unfold in32; omega, ih (i + 1) (by omega) κ (P1.tr (k1.wk (fun c i j z => Or.inl (Or.inr (Or.inl z))))) (fun a b ha hb => ?_) (fun a b ha hb hne' => ?_) (fun a ha => ?_)⟩
              · rw [← p2 a b ha hb]
                unfold wC
                rw [k1 92 0 _ (fun z => by omega), up_c (by omega)]
              · rw [k2 a b (by omega) (by omega), cH, p3 a b ha hb hne']
                by_cases e : a = i
                · subst e
                  by_cases e2 : b = g a
                  · rw [if_neg (fun z => z.2.2 e2), if_neg (fun z => by omega), if_neg (fun z => z.2.2 e2)]
                  · rw [if_pos ⟨rfl, hb, e2⟩, if_pos ⟨by omega, hir, e2⟩]
                · rw [if_neg (fun z => e z.1)]
                  by_cases q : a < i ∧ a ≠ root ∧ b ≠ g a
                  · rw [if_pos q, if_pos ⟨by omega, q.2⟩]
                  · rw [if_neg q, if_neg (fun z => q ⟨by omega, z.2⟩)]
              · rw [c97]
                by_cases e : a = i
                · rw [e, up_s, if_neg hir]
                · rw [up_j e]; exact p4 a (by omega)
            | succ r ihr =>
              intro y hy ω o1 o2 o3 o4 o5
              by_cases e : y = i
              · refine b_X13_tree_65 ?_
                rw [Int.toNat_natCast, o5]
                exact ⟨⟨by omega, by omega⟩, fun z => absurd rfl z, fun _ => ⟨fun _ => ⟨by unfold in32; omega, ihr (y + 1) (by omega) ω o1 o2 o3 o4 o5⟩, fun z => absurd (by omega) z⟩⟩
              · refine stay y ω (by omega) e o1 o2 o3 o4 o5 (fun ρ p1 p2 p3 p4 p5 => ?_)
                rw [b2_f (q4 y (by omega) e)]
                exact b_X13_tree_108 ⟨fun _ => ⟨by unfold in32; omega, ihr (y + 1) (by omega) ρ p1 p2 p3 p4 p5⟩, fun z => absurd rfl z⟩
          refine inner (g i) 0 (by omega) _ (g1.u (Or.inr ⟨rfl, by omega⟩)) (fun a b ha hb => ?_) (fun a b ha hb hne' => ?_) (fun a ha => ?_) (up_s _ _ _ _ _)
          · rw [← g2 a b ha hb]; exact up_c (by omega)
          · rw [← g3 a b ha hb hne']; exact up_c (by omega)
          · rw [up_j (by omega)]; exact g4 a ha
        · have hir : i = root := by omega
          rw [Int.toNat_natCast]
          refine b_X13_tree_136 ⟨by unfold in32; omega, ih (i + 1) (by omega) _ (g1.u (Or.inr ⟨rfl, by omega⟩)) (fun a b ha hb => ?_) (fun a b ha hb hne' => ?_) (fun a ha => ?_)⟩
          · rw [← g2 a b ha hb]; exact up_c (by omega)
          · have e1 : wH (up τ 97 0 i (-1)) a b = wH τ a b := up_c (by omega)
            rw [e1, g3 a b ha hb hne']
            by_cases q : a < i ∧ a ≠ root ∧ b ≠ g a
            · rw [if_pos q, if_pos ⟨by omega, q.2⟩]
            · rw [if_neg q, if_neg (fun z => q ⟨by omega, z.2⟩)]
          · by_cases e : a = i
            · rw [e, up_s, if_pos hir]
            · rw [up_j e]; exact g4 a (by omega)
    have cU : ∀ x, υ 92 0 x = τ1 92 0 x := fun x => by rw [u1 92 0 x (fun z => by unfold smP at z; omega), f2 92 0 x (fun z => by omega)]
    refine key N 0 (by omega) υ (((f1.wk (fun c i j z => Or.inl (Or.inl z))).tr (f2.wk (fun c i j z => Or.inl (Or.inr (Or.inl z))))).tr (u1.wk (fun c i j z => Or.inl (Or.inr (Or.inr z))))) (fun a b ha hb => cU _) (fun a b ha hb hne => ?_) (fun a ha => by omega)
    rw [if_neg (fun z => by omega), ← e0 a b ha hb]
    exact u1 93 0 _ (fun z => by unfold smP at z; omega)
  · exfalso
    refine hno (fun _ => root) ⟨fun v => if v = root then 0 else 1, fun v hv hne => ⟨hr, fun z => hne z.symm, ?_, ?_⟩⟩
    · show wH τ0 v root < 1000000000
      rw [e0 v root hv hr]
      have := hbd v root hv hr hne
      omega
    · show (if root = root then 0 else 1) < (if v = root then 0 else 1)
      rw [if_pos rfl, if_neg hne]; omega
end MTree
