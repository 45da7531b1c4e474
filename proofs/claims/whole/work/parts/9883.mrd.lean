/-! ===== the model's reader: need, look, number; people, habits, keeps, slip, worth, answer ===== -/
def DRm (σ : St) (D : PSt) : Prop := (σ 14 0 14 = pe D.1 ∧ σ 14 0 15 = ha D.1 ∧ σ 14 0 16 = an D.1 ∧ σ 14 0 18 = sy D.1 ∧ σ 14 0 19 = D.2.1 0 ∧ σ 14 0 20 = D.2.1 1 ∧ σ 14 0 21 = D.2.1 2 ∧ σ 14 0 22 = D.2.1 4 ∧ σ 14 0 23 = D.2.1 5) ∧ (∀ j, j < 16 → σ 68 0 j = ge D.1 j) ∧ (∀ j, j < 4 → σ 74 0 j = sl D.1 j) ∧ (∀ j, j < 10 → σ 70 0 j = me D.1 j) ∧ (∀ j, j < 10 → σ 72 0 j = ke D.1 j) ∧ (∀ j, j < 16 → σ 75 0 j = D.2.2.1 j) ∧ (∀ j, j < 4 → σ 76 0 j = D.2.2.2 j)
def LM (σ : St) (I : TXT) (s : Nat) (D : PSt) : Prop := TPm σ I ∧ s ≤ I.1 ∧ TKm σ I s ∧ DRm σ D ∧ σ 14 0 8 = 0 ∧ σ 14 0 9 = -1
def TH (σ : St) (k : Int) (pl : Nat) : Prop := σ 14 0 8 = k ∧ k ≠ 0 ∧ σ 14 0 9 = (pl : Int)
def rmP (c i j : Nat) : Prop := i = 0 ∧ ((c = 14 ∧ ((4 ≤ j ∧ j ≤ 9) ∨ (14 ≤ j ∧ j ≤ 16) ∨ (18 ≤ j ∧ j ≤ 23))) ∨ c = 68 ∨ c = 70 ∨ c = 72 ∨ c = 74 ∨ c = 75 ∨ c = 76)
section Mrd
variable {σ τ : St} {Q : Res → St → Prop} {I : TXT} {s : Nat} {D : PSt} {k : Int} {pl : Nat}
theorem tm_rm (f : FR tmP σ τ) : FR rmP σ τ := f.wk (fun c i j z => by unfold tmP at z; unfold rmP; omega)
theorem DRm.tm (h : DRm σ D) (f : FR tmP σ τ) : DRm τ D := by
  have g : ∀ c i j, ¬ tmP c i j → τ c i j = σ c i j := f
  obtain ⟨⟨a0, a1, a2, a3, a4, a5, a6, a7, a8⟩, b1, b2, b3, b4, b5, b6⟩ := h
  refine ⟨⟨by rw [g 14 0 14 (by unfold tmP; omega)]; exact a0, by rw [g 14 0 15 (by unfold tmP; omega)]; exact a1, by rw [g 14 0 16 (by unfold tmP; omega)]; exact a2, by rw [g 14 0 18 (by unfold tmP; omega)]; exact a3, by rw [g 14 0 19 (by unfold tmP; omega)]; exact a4, by rw [g 14 0 20 (by unfold tmP; omega)]; exact a5, by rw [g 14 0 21 (by unfold tmP; omega)]; exact a6, by rw [g 14 0 22 (by unfold tmP; omega)]; exact a7, by rw [g 14 0 23 (by unfold tmP; omega)]; exact a8⟩, fun j hj => ?_, fun j hj => ?_, fun j hj => ?_, fun j hj => ?_, fun j hj => ?_, fun j hj => ?_⟩
  · rw [g 68 0 j (by unfold tmP; omega)]; exact b1 j hj
  · rw [g 74 0 j (by unfold tmP; omega)]; exact b2 j hj
  · rw [g 70 0 j (by unfold tmP; omega)]; exact b3 j hj
  · rw [g 72 0 j (by unfold tmP; omega)]; exact b4 j hj
  · rw [g 75 0 j (by unfold tmP; omega)]; exact b5 j hj
  · rw [g 76 0 j (by unfold tmP; omega)]; exact b6 j hj
theorem d_sc (hL : LM σ I s D) (h : ∀ τ, FR rmP σ τ → LM τ I (nx I s) D → Q (.inl none) τ) : WP mX13_scan 0 [vR 14 0, vU] [] σ Q := by
  obtain ⟨hT, hs, hK, hR, e8, e9⟩ := hL
  refine d_scan hT hK.2.1 (tE_le hs) (fun τ f hk => h τ (tm_rm f) ⟨hT.fr f (by unfold tmP; omega), nx_le hs, hk, hR.tm f, ?_, ?_⟩)
  · rw [f 14 0 8 (by unfold tmP; omega)]; exact e8
  · rw [f 14 0 9 (by unfold tmP; omega)]; exact e9
theorem d_need {x : Int} (h1 : x ≠ 0 → Q (.inl none) σ) (h2 : x = 0 → Q (.inr (13, 0)) (up (up σ 14 0 8 k) 14 0 9 (σ 14 0 4))) : WP mX13_need 0 [vR 14 0, vI x, vI k] [] σ Q := by
  refine b_X13_need_0 ⟨h1, fun z => b_X13_wrong_0 ?_⟩
  show WP mX13_need 9 [vU, vU, vU] [vR 13 0] _ Q
  exact b_X13_need_9 (h2 z)
theorem LM.th (hL : LM σ I s D) (hk : k ≠ 0) : FR rmP σ (up (up σ 14 0 8 k) 14 0 9 (σ 14 0 4)) ∧ TH (up (up σ 14 0 8 k) 14 0 9 (σ 14 0 4)) k s := by
  refine ⟨(FR.rf.u (by unfold rmP; omega)).u (by unfold rmP; omega), by simp [up], hk, ?_⟩
  rw [up_s]; exact hL.2.2.1.1
/-- a need in a method's course: its two ways -/
theorem d_needY {M : MI} {pc : Nat} {als : List AV} (h : WP M pc als [] σ Q) : WP mX13_need 0 [vR 14 0, vI 1, vI k] [] σ (CTT M pc als [] Q) := d_need (fun _ => h) (fun z => by omega)
theorem d_needN {M : MI} {pc : Nat} {als : List AV} (hL : LM σ I s D) (hk : k ≠ 0) (h : ∀ τ, FR rmP σ τ → TH τ k s → Q (.inr (13, 0)) τ) : WP mX13_need 0 [vR 14 0, vI 0, vI k] [] σ (CTT M pc als [] Q) := d_need (fun z => absurd rfl z) (fun _ => h _ (hL.th hk).1 (hL.th hk).2)
theorem d_look {lo hi : Int} (hL : LM σ I s D) (h1 : (∀ K, num I lo hi s K = K (tN I s)) → lo ≤ tN I s → tN I s ≤ hi → Q (.inl (some (vI (tN I s)))) σ) (h2 : ∀ τ k, (∀ K, num I lo hi s K = .inr (k, s)) → FR rmP σ τ → TH τ k s → Q (.inr (13, 0)) τ) : WP mX13_look 0 [vR 14 0, vI lo, vI hi] [] σ Q := by
  obtain ⟨k1, k2, k3, k4⟩ := hL.2.2.1
  refine b_X13_look_0 ?_
  rw [k3]
  refine ⟨fun z => d_needN hL (by omega) (fun τ f ht => h2 τ 1 (num_1 z) f ht), fun z => d_needY (b_X13_look_18 ?_)⟩
  rw [k4 z]
  by_cases q : lo ≤ tN I s ∧ tN I s ≤ hi
  · rw [b2_t q]
    refine d_needY (b_X13_look_35 ?_)
    rw [k4 z]
    exact h1 (num_ok z q) q.1 q.2
  · rw [b2_f q]
    exact d_needN hL (by omega) (fun τ f ht => h2 τ 2 (num_2 z q) f ht)
theorem d_number {lo hi : Int} (hL : LM σ I s D) (h1 : ∀ τ, FR rmP σ τ → LM τ I (nx I s) D → (∀ K, num I lo hi s K = K (tN I s)) → lo ≤ tN I s → tN I s ≤ hi → Q (.inl (some (vI (tN I s)))) τ) (h2 : ∀ τ k, (∀ K, num I lo hi s K = .inr (k, s)) → FR rmP σ τ → TH τ k s → Q (.inr (13, 0)) τ) : WP mX13_number 0 [vR 14 0, vI lo, vI hi, vU] [] σ Q := by
  refine b_X13_number_0 (d_look hL (fun en l1 l2 => ?_) (fun τ k en f ht => h2 τ k en f ht))
  show WP mX13_number 6 [vR 14 0, vU, vU, vU] [vI _] σ Q
  refine b_X13_number_6 (d_sc hL (fun τ f L2 => ?_))
  show WP mX13_number 11 [vU, vU, vU, vI _] [] τ Q
  exact b_X13_number_11 (h1 τ f L2 en l1 l2)
/-- writes of the read valley -/
theorem LM.w {c j : Nat} {x : Int} {D' : PSt} (hL : LM σ I s D) (hc : (c = 14 ∧ 14 ≤ j) ∨ (68 ≤ c ∧ c ≤ 76)) (hR : DRm (up σ c 0 j x) D') : LM (up σ c 0 j x) I s D' := by
  have g : ∀ c' j', ¬ (c' = c ∧ j' = j) → up σ c 0 j x c' 0 j' = σ c' 0 j' := fun c' j' h => by
    unfold up; rw [if_neg (fun z => h ⟨z.1, z.2.2⟩)]
  obtain ⟨d4, d5, ⟨k1, k2, k3, k4⟩, -, e8, e9⟩ := hL
  exact ⟨⟨by rw [g 14 3 (by omega)]; exact d4.1, d4.2.1, fun q hq => by rw [g 66 q (by omega)]; exact d4.2.2 q hq⟩, d5, ⟨by rw [g 14 4 (by omega)]; exact k1, by rw [g 14 5 (by omega)]; exact k2, by rw [g 14 6 (by omega)]; exact k3, fun z => by rw [g 14 7 (by omega)]; exact k4 z⟩, hR, by rw [g 14 8 (by omega)]; exact e8, by rw [g 14 9 (by omega)]; exact e9⟩
/-- the scalars change: those of the model's row -/
theorem DRm.sc {τ : St} {D' : PSt} (h : DRm σ D) (f : FR (fun c i j => c = 14 ∧ i = 0) σ τ) (h0 : τ 14 0 14 = pe D'.1 ∧ τ 14 0 15 = ha D'.1 ∧ τ 14 0 16 = an D'.1 ∧ τ 14 0 18 = sy D'.1 ∧ τ 14 0 19 = D'.2.1 0 ∧ τ 14 0 20 = D'.2.1 1 ∧ τ 14 0 21 = D'.2.1 2 ∧ τ 14 0 22 = D'.2.1 4 ∧ τ 14 0 23 = D'.2.1 5) (h1 : D'.1.2 = D.1.2) (h2 : D'.2.2 = D.2.2) : DRm τ D' := by
  have g : ∀ c i j, ¬ (c = 14 ∧ i = 0) → τ c i j = σ c i j := f
  obtain ⟨-, b1, b2, b3, b4, b5, b6⟩ := h
  refine ⟨h0, fun j hj => ?_, fun j hj => ?_, fun j hj => ?_, fun j hj => ?_, fun j hj => ?_, fun j hj => ?_⟩
  · rw [g 68 0 j (by omega)]; show _ = D'.1.2.1 j; rw [h1]; exact b1 j hj
  · rw [g 74 0 j (by omega)]; show _ = D'.1.2.2.1 j; rw [h1]; exact b2 j hj
  · rw [g 70 0 j (by omega)]; show _ = D'.1.2.2.2.1 j; rw [h1]; exact b3 j hj
  · rw [g 72 0 j (by omega)]; show _ = D'.1.2.2.2.2 j; rw [h1]; exact b4 j hj
  · rw [g 75 0 j (by omega), h2]; exact b5 j hj
  · rw [g 76 0 j (by omega), h2]; exact b6 j hj
theorem d_powerC {H n : Nat} (hH : 2 ≤ H) (hH4 : H ≤ 4) (hn : n ≤ 10) (h : ∀ x : Int, (x ≤ 1024 ↔ H ^ n ≤ 1024) → Q (.inl (some (vI x))) σ) : WP mX13_power 0 [vI (H : Int), vI (n : Int), vU, vU] [] σ Q := by
  refine b_X13_power_0 ?_
  have key : ∀ r p : Nat, r + p = n → ∀ v : Int, 1 ≤ v → v ≤ 2048 → (v ≤ 1024 ↔ H ^ p ≤ 1024) → (v < 2048 → v = ((H ^ p : Nat) : Int)) → (v = 2048 → 2048 ≤ H ^ p) → WP mX13_power 4 [vI (H : Int), vI (n : Int), vI v, vI (p : Int)] [] σ Q := by
    intro r
    induction r with
    | zero =>
      intro p hp v v1 v2 e _ _
      have : p = n := by omega
      subst this
      exact b_X13_power_4 ⟨fun _ => h v e, fun z => by omega⟩
    | succ r ih =>
      intro p hp v v1 v2 e e1 e2
      have hv : v * (H : Int) ≤ 2048 * 4 := by
        have a : v * (H : Int) ≤ 2048 * (H : Int) := Int.mul_le_mul_of_nonneg_right v2 (by omega)
        omega
      have hv1 : v * 2 ≤ v * (H : Int) := Int.mul_le_mul_of_nonneg_left (by omega) (by omega)
      have es : H ^ (p + 1) = H ^ p * H := Nat.pow_succ ..
      have ep : H ^ p * 2 ≤ H ^ (p + 1) := by rw [es]; exact Nat.mul_le_mul_left _ hH
      refine b_X13_power_4 ⟨fun z => by omega, fun _ => ⟨by unfold in32; omega, by unfold in32; omega, ?_⟩⟩
      have eq : v < 2048 → v * (H : Int) = ((H ^ (p + 1) : Nat) : Int) := fun q => by rw [e1 q, es]; push_cast; rfl
      refine ih (p + 1) (by omega) (min 2048 (v * (H : Int))) (by omega) (by omega) ?_ (fun q => ?_) (fun q => ?_)
      · by_cases q : v < 2048
        · rw [eq q]; omega
        · have := e2 (by omega); omega
      · by_cases q2 : v < 2048
        · rw [← eq q2]; omega
        · omega
      · by_cases q2 : v < 2048
        · have := eq q2; omega
        · have := e2 (by omega); omega
  exact key n 0 (by omega) 1 (by omega) (by omega) (by simp) (fun _ => by simp) (fun z => by omega)
theorem m_people (hL : LM σ I s D) (hD : DOK D) (h1 : ∀ τ D' e, qPeople I D s = .inl (D', e) → FR rmP σ τ → LM τ I e D' → Q (.inl none) τ) (h2 : ∀ τ k pl, qPeople I D s = .inr (k, pl) → FR rmP σ τ → TH τ k pl → Q (.inr (13, 0)) τ) : WP mX13_readPeople 0 [vR 14 0, vU] [] σ Q := by
  have hf := hD.2.2.2.2.2.2.2.2.2.1
  obtain ⟨⟨a0, a1, a2, a3, a4, a5, a6, a7, a8⟩, -⟩ := hL.2.2.2.1
  refine b_X13_readPeople_0 ?_
  rw [a4]
  refine ⟨fun z => d_needN hL (by omega) (fun τ f ht => h2 τ 3 s (by unfold qPeople; rw [if_pos ((hf 0).resolve_left z)]) f ht), fun z => d_needY (b_X13_readPeople_17 ?_)⟩
  rw [a8]
  have n0 : ¬ D.2.1 0 = 1 := by omega
  refine ⟨fun z5 => d_needN hL (by omega) (fun τ f ht => h2 τ 4 s (by unfold qPeople; rw [if_neg n0, if_pos ((hf 5).resolve_left z5)]) f ht), fun z5 => d_needY (b_X13_readPeople_34 (d_sc hL (fun τ f L2 => ?_)))⟩
  have n5 : ¬ D.2.1 5 = 1 := by omega
  show WP mX13_readPeople 38 [vR 14 0, vU] [] τ Q
  have eq1 : qPeople I D s = num I 2 10 (nx I s) (fun v => if ha D.1 ^ v.toNat ≤ 1024 then .inl (((fu D.1.1 0 v, D.1.2), fu D.2.1 0 1, D.2.2), nx I (nx I s)) else .inr (2, nx I s)) := by
    unfold qPeople; rw [if_neg n0, if_neg n5]
  refine b_X13_readPeople_38 (d_look L2 (fun en l1 l2 => ?_) (fun υ k en f2 ht => ?_))
  · show WP mX13_readPeople 45 [vR 14 0, vU] [vI _] τ Q
    rw [en] at eq1
    have e1 : τ 14 0 15 = ha D.1 := L2.2.2.2.1.1.2.1
    obtain ⟨H, eH, hh2, hh4⟩ : ∃ H : Nat, ha D.1 = (H : Int) ∧ 2 ≤ H ∧ H ≤ 4 := ⟨(ha D.1).toNat, by have := hD.2.1; omega, by have := hD.2.1; omega, by have := hD.2.1; omega⟩
    obtain ⟨n, en2⟩ : ∃ n : Nat, tN I (nx I s) = (n : Int) := ⟨(tN I (nx I s)).toNat, by omega⟩
    rw [en2] at eq1 l1 l2 ⊢
    rw [Int.toNat_natCast, eH] at eq1
    refine b_X13_readPeople_45 ?_
    rw [e1, eH]
    refine d_powerC hh2 hh4 (by omega) (fun x hx => ?_)
    show WP mX13_readPeople 55 [vR 14 0, vI _] [vI x, vR 14 0] τ Q
    refine b_X13_readPeople_55 ⟨fun z => ?_, fun z => ?_⟩
    · rw [if_neg (fun q => by have := pw_nat.mp q; omega)] at eq1
      exact d_needN L2 (by omega) (fun υ f2 ht => h2 υ 2 _ eq1 (f.tr f2) ht)
    · rw [if_pos (pw_nat.mpr (hx.mp z))] at eq1
      refine d_needY (b_X13_readPeople_70 (d_sc L2 (fun υ f2 L3 => ?_)))
      show WP mX13_readPeople 74 [vR 14 0, vI _] [] υ Q
      refine b_X13_readPeople_74 (h1 _ _ _ eq1 (((f.tr f2).u (by unfold rmP; omega)).u (by unfold rmP; omega)) ?_)
      obtain ⟨d4, d5, ⟨k1, k2, k3, k4⟩, hR, e8, e9⟩ := L3
      refine ⟨d4.fr ((FR.rf (P := rmP).u (by unfold rmP; omega)).u (by unfold rmP; omega)) (by unfold rmP; omega), d5, ⟨by simp [up, k1], by simp [up, k2], by simp [up, k3], fun z => by simp [up, k4 z]⟩, hR.sc ((FR.rf.u ⟨rfl, rfl⟩).u ⟨rfl, rfl⟩) ?_ rfl rfl, by simp [up, e8], by simp [up, e9]⟩
      obtain ⟨⟨c0, c1, c2, c3, c4, c5, c6, c7, c8⟩, -⟩ := hR
      exact ⟨by simp [up, pe, fu], by simp [up]; exact c1, by simp [up]; exact c2, by simp [up]; exact c3, by simp [up, fu], by simp [up, fu]; exact c5, by simp [up, fu]; exact c6, by simp [up, fu]; exact c7, by simp [up, fu]; exact c8⟩
  · rw [en] at eq1
    exact h2 υ k _ eq1 (f.tr f2) ht
theorem m_habits (hL : LM σ I s D) (hD : DOK D) (h1 : ∀ τ D' e, qHabits I D s = .inl (D', e) → FR rmP σ τ → LM τ I e D' → Q (.inl none) τ) (h2 : ∀ τ k pl, qHabits I D s = .inr (k, pl) → FR rmP σ τ → TH τ k pl → Q (.inr (13, 0)) τ) : WP mX13_readHabits 0 [vR 14 0, vU] [] σ Q := by
  have hf := hD.2.2.2.2.2.2.2.2.2.1
  obtain ⟨⟨a0, a1, a2, a3, a4, a5, a6, a7, a8⟩, -⟩ := hL.2.2.2.1
  refine b_X13_readHabits_0 ?_
  rw [a5]
  refine ⟨fun z => d_needN hL (by omega) (fun τ f ht => h2 τ 3 s (by unfold qHabits; rw [if_pos ((hf 1).resolve_left z)]) f ht), fun z => d_needY (b_X13_readHabits_17 ?_)⟩
  rw [a8]
  have n0 : ¬ D.2.1 1 = 1 := by omega
  refine ⟨fun z5 => d_needN hL (by omega) (fun τ f ht => h2 τ 4 s (by unfold qHabits; rw [if_neg n0, if_pos ((hf 5).resolve_left z5)]) f ht), fun z5 => d_needY (b_X13_readHabits_34 (d_sc hL (fun τ f L2 => ?_)))⟩
  have n5 : ¬ D.2.1 5 = 1 := by omega
  show WP mX13_readHabits 38 [vR 14 0, vU] [] τ Q
  have eq1 : qHabits I D s = num I 2 4 (nx I s) (fun v => if v ^ (pe D.1).toNat ≤ 1024 then .inl (((fu D.1.1 1 v, D.1.2), fu D.2.1 1 1, D.2.2), nx I (nx I s)) else .inr (2, nx I s)) := by
    unfold qHabits; rw [if_neg n0, if_neg n5]
  refine b_X13_readHabits_38 (d_look L2 (fun en l1 l2 => ?_) (fun υ k en f2 ht => ?_))
  · show WP mX13_readHabits 44 [vR 14 0, vU] [vI _] τ Q
    rw [en] at eq1
    have e1 : τ 14 0 14 = pe D.1 := L2.2.2.2.1.1.1
    obtain ⟨n, eH, hh2, hh4⟩ : ∃ n : Nat, pe D.1 = (n : Int) ∧ 2 ≤ n ∧ n ≤ 10 := ⟨(pe D.1).toNat, by have := hD.1; omega, by have := hD.1; omega, by have := hD.1; omega⟩
    obtain ⟨H, en2⟩ : ∃ n : Nat, tN I (nx I s) = (n : Int) := ⟨(tN I (nx I s)).toNat, by omega⟩
    rw [en2] at eq1 l1 l2 ⊢
    rw [eH, Int.toNat_natCast] at eq1
    refine b_X13_readHabits_44 ?_
    rw [e1, eH]
    refine d_powerC (H := H) (by omega) (by omega) hh4 (fun x hx => ?_)
    show WP mX13_readHabits 54 [vR 14 0, vI _] [vI x, vR 14 0] τ Q
    refine b_X13_readHabits_54 ⟨fun z => ?_, fun z => ?_⟩
    · rw [if_neg (fun q => by have := pw_nat.mp q; omega)] at eq1
      exact d_needN L2 (by omega) (fun υ f2 ht => h2 υ 2 _ eq1 (f.tr f2) ht)
    · rw [if_pos (pw_nat.mpr (hx.mp z))] at eq1
      refine d_needY (b_X13_readHabits_69 (d_sc L2 (fun υ f2 L3 => ?_)))
      show WP mX13_readHabits 73 [vR 14 0, vI _] [] υ Q
      refine b_X13_readHabits_73 (h1 _ _ _ eq1 (((f.tr f2).u (by unfold rmP; omega)).u (by unfold rmP; omega)) ?_)
      obtain ⟨d4, d5, ⟨k1, k2, k3, k4⟩, hR, e8, e9⟩ := L3
      refine ⟨d4.fr ((FR.rf (P := rmP).u (by unfold rmP; omega)).u (by unfold rmP; omega)) (by unfold rmP; omega), d5, ⟨by simp [up, k1], by simp [up, k2], by simp [up, k3], fun z => by simp [up, k4 z]⟩, hR.sc ((FR.rf.u ⟨rfl, rfl⟩).u ⟨rfl, rfl⟩) ?_ rfl rfl, by simp [up, e8], by simp [up, e9]⟩
      obtain ⟨⟨c0, c1, c2, c3, c4, c5, c6, c7, c8⟩, -⟩ := hR
      exact ⟨by simp [up]; exact c0, by simp [up, ha, fu], by simp [up]; exact c2, by simp [up]; exact c3, by simp [up, fu]; exact c4, by simp [up, fu], by simp [up, fu]; exact c6, by simp [up, fu]; exact c7, by simp [up, fu]; exact c8⟩
  · rw [en] at eq1
    exact h2 υ k _ eq1 (f.tr f2) ht
end Mrd
