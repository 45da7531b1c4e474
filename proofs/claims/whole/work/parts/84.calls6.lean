/-! ===== ran, judged, parts, see, right ===== -/
section Calls6
variable {σ τ : St} {Q : Res → St → Prop} {V : Vy}
theorem INV.sn (h : INV V σ) (f : FR (fun c i j => i = 0 ∧ (c = 7 ∨ (40 ≤ c ∧ c ≤ 45) ∨ (c = 14 ∧ (83 ≤ j ∧ j ≤ 85)) ∨ (104 ≤ c ∧ c ≤ 109))) σ τ) (h1 : ISN V τ) : INV V τ := by
  obtain ⟨a1, a2, a3, a4, a5, a6, a7, a8, a9, a10, a11, a12⟩ := h
  refine ⟨a1.fr f ?_, a2.fr f ?_, a3.fr f ?_, a4.fr f ?_, a5.fr f ?_, a6.fr f ?_, a7.fr f ?_, a8.fr f ?_, a9.fr f ?_, a10.fr f ?_, a11.fr f ?_, h1⟩ <;> omega
theorem pr_ran {w : Int} (hw : in32 w) (hI : INV V σ) : PRC mX11_ran mX13_ran [vR 12 0, vI w, vU] [vR 14 0, vI w] σ := by
  have hV := hI.1.1
  have hpe := hV.pe
  have ep := hI.1.2.1.1.pe
  have em := hI.1.2.2.1.1
  unfold in32 at hw
  rcases hI.2.2.2.2.2.2.2.2.2.1 with ⟨e1, e2⟩ | ⟨e1, e2, e3, e4, e5, e6⟩
  · exact PRC.same (-1) hI (fun Q h => b_X11_ran_0 ⟨fun z => absurd e1 z, fun _ => h⟩) (fun Q h => b_X13_ran_0 ⟨fun z => absurd e2 z, fun _ => h⟩)
  · have cc : ∀ x : Int, (w = 0 → x = σ 11 0 2) → (w = 1 → x = σ 11 0 3) → (w = 2 → x = σ 11 0 4) → (10 ≤ w ∧ w < 10 + pe V → x = σ 62 0 (w - 10).toNat) → (¬ (w = 0 ∨ w = 1 ∨ w = 2) → ¬ (10 ≤ w ∧ w < 10 + pe V) → x = -1) → PRC mX11_ran mX13_ran [vR 12 0, vI w, vU] [vR 14 0, vI w] σ := fun x h0 h1 h2 h3 h4 => by
      refine PRC.same x hI (fun Q h => b_X11_ran_0 ?_) (fun Q h => b_X13_ran_0 ?_)
      · rw [ep]
        refine ⟨fun _ => ⟨fun z => by rw [← h0 z]; exact h, fun z => by rw [← h1 z]; exact h, fun z => by rw [← h2 z]; exact h, fun z => ⟨fun z2 => by rw [← h4 (by omega) (by omega)]; exact h, fun z2 => ⟨by unfold in32; omega, fun z3 => by rw [← h4 (by omega) (by omega)]; exact h, fun z3 => ⟨by unfold in32; omega, by omega, by rw [← h3 ⟨z2, by omega⟩]; exact h⟩⟩⟩⟩, fun z => absurd z e1⟩
      · rw [em]
        refine ⟨fun _ => ⟨fun z0 => ⟨fun z1 => ⟨fun z2 => ⟨by unfold in64; omega, fun z3 => by rw [← h4 (by omega) (by omega)]; exact h, fun z3 => ⟨by unfold in32; omega, by omega, by rw [← e6 _ (by omega), ← h3 ⟨by omega, by omega⟩]; exact h⟩⟩, fun z => by rw [← e5, ← h2 z]; exact h⟩, fun z => by rw [← e4, ← h1 z]; exact h⟩, fun z => by rw [← e3, ← h0 z]; exact h⟩, fun z => absurd z e2⟩
    by_cases w0 : w = 0
    · exact cc (σ 11 0 2) (fun _ => rfl) (by omega) (by omega) (by omega) (by omega)
    · by_cases w1 : w = 1
      · exact cc (σ 11 0 3) (by omega) (fun _ => rfl) (by omega) (by omega) (by omega)
      · by_cases w2 : w = 2
        · exact cc (σ 11 0 4) (by omega) (by omega) (fun _ => rfl) (by omega) (by omega)
        · by_cases w3 : 10 ≤ w ∧ w < 10 + pe V
          · exact cc (σ 62 0 (w - 10).toNat) (by omega) (by omega) (by omega) (fun _ => rfl) (fun _ z => absurd w3 z)
          · exact cc (-1) (by omega) (by omega) (by omega) (fun z => absurd z w3) (fun _ _ => rfl)
theorem pr_judged {w : Int} (hI : INV V σ) : PRC mX11_judged mX13_judged [vR 12 0, vI w] [vR 14 0, vI w] σ := by
  rcases hI.2.2.2.2.2.2.2.2.2.2.1 with ⟨e1, e2⟩ | ⟨e1, e2, e3, e4, e5, e6⟩
  · exact PRC.same (-1) hI (fun Q h => b_X11_judged_0 ⟨fun z => absurd e1 z, fun _ => h⟩) (fun Q h => b_X13_judged_0 ⟨fun z => absurd e2 z, fun _ => h⟩)
  · have cc : ∀ x : Int, (w = 0 → x = σ 11 1 2) → (w = 1 → x = σ 11 1 3) → (w = 2 → x = σ 11 1 1) → (w = 3 → σ 11 1 5 = 0 → x = 0) → (w = 3 → σ 11 1 5 ≠ 0 → x = 1) → (w < 0 ∨ 3 < w → x = -1) → PRC mX11_judged mX13_judged [vR 12 0, vI w] [vR 14 0, vI w] σ := fun x h0 h1 h2 h3 h4 h5 => by
      refine PRC.same x hI (fun Q h => b_X11_judged_0 ?_) (fun Q h => b_X13_judged_0 ?_)
      · exact ⟨fun _ => ⟨fun z => by rw [← h0 z]; exact h, fun z => by rw [← h1 z]; exact h, fun z => by rw [← h2 z]; exact h, fun z => ⟨fun z2 => by rw [← h3 z z2]; exact h, fun z2 => by rw [← h4 z z2]; exact h⟩, fun z => by rw [← h5 z]; exact h⟩, fun z => absurd z e1⟩
      · exact ⟨fun _ => ⟨fun z0 => ⟨fun z1 => ⟨fun z2 => ⟨fun z3 => by rw [← h5 (by omega)]; exact h, fun z => ⟨fun z4 => by rw [← h3 z (e6.mpr z4)]; exact h, fun z4 => by rw [← h4 z (fun q => z4 (e6.mp q))]; exact h⟩⟩, fun z => by rw [← e5, ← h2 z]; exact h⟩, fun z => by rw [← e4, ← h1 z]; exact h⟩, fun z => by rw [← e3, ← h0 z]; exact h⟩, fun z => absurd z e2⟩
    by_cases w0 : w = 0
    · exact cc (σ 11 1 2) (fun _ => rfl) (by omega) (by omega) (by omega) (by omega) (by omega)
    · by_cases w1 : w = 1
      · exact cc (σ 11 1 3) (by omega) (fun _ => rfl) (by omega) (by omega) (by omega) (by omega)
      · by_cases w2 : w = 2
        · exact cc (σ 11 1 1) (by omega) (by omega) (fun _ => rfl) (by omega) (by omega) (by omega)
        · by_cases w3 : w = 3
          · by_cases q : σ 11 1 5 = 0
            · exact cc 0 (by omega) (by omega) (by omega) (fun _ _ => rfl) (fun _ z => absurd q z) (by omega)
            · exact cc 1 (by omega) (by omega) (by omega) (fun _ z => absurd z q) (fun _ _ => rfl) (by omega)
          · exact cc (-1) (by omega) (by omega) (by omega) (by omega) (by omega) (fun _ => rfl)
theorem pr_parts {s : Int} (hI : INV V σ) : PRC mX11_parts mX13_parts [vR 12 0, vI s] [vR 14 0, vI s] σ := by
  have hV := hI.1.1
  have hA := hI.1.2.1
  have hT := hI.1.2.2.1
  rcases hI.2.2.2.2.2.2.2.2.1 with ⟨e1, e2⟩ | ⟨e1, e2, e3⟩
  · exact PRC.same (-1) hI (fun Q h => b_X11_parts_0 ⟨fun _ => h, fun z => absurd e1 z⟩) (fun Q h => b_X13_parts_0 ⟨fun _ => h, fun z => absurd e2 z⟩)
  · by_cases hs : isSt V s
    · have hb := st_bd hV hs
      refine PRC.same (σ 20 0 s.toNat) hI (fun Q h => b_X11_parts_0 ⟨fun z => absurd z e1, fun _ => c_isState hV hA.1 hA.2.1 (b_X11_parts_21 ⟨fun z => absurd hs (b2_eq z), fun _ => ⟨hb, h⟩⟩)⟩) (fun Q h => b_X13_parts_0 ⟨fun z => absurd z e2, fun _ => d_isState hV hT (b_X13_parts_12 ⟨fun z => absurd hs (b2_eq z), fun _ => ⟨hb, ?_⟩⟩)⟩)
      rw [← e3 s.toNat (by rw [show ((s.toNat : Nat) : Int) = s by omega]; exact hs)]; exact h
    · exact PRC.same (-1) hI (fun Q h => b_X11_parts_0 ⟨fun _ => h, fun _ => c_isState hV hA.1 hA.2.1 (b_X11_parts_21 ⟨fun _ => h, fun z => absurd (b2_ne z) hs⟩)⟩) (fun Q h => b_X13_parts_0 ⟨fun _ => h, fun _ => d_isState hV hT (b_X13_parts_12 ⟨fun _ => h, fun z => absurd (b2_ne z) hs⟩)⟩)
theorem pr_see {t d s : Int} (hI : INV V σ) : PRC mX11_see mX13_see [vR 12 0, vI t, vI d, vI s] [vR 14 0, vI t, vI d, vI s] σ := by
  have hV := hI.1.1
  have hA := hI.1.2.1
  have hT := hI.1.2.2.1
  obtain ⟨s1, s2, s3, s4, s5, s6, s7, s8⟩ := hI.2.2.2.2.2.2.2.2.2.2.2
  have hd : σ 7 0 0 ≠ 0 → σ 105 0 (σ 14 0 83 - 1).toNat = σ 40 0 (σ 7 0 0 - 1).toNat ∧ 0 ≤ σ 40 0 (σ 7 0 0 - 1).toNat ∧ σ 40 0 (σ 7 0 0 - 1).toNat ≤ 999 := fun z => by
    have := s7 (σ 7 0 0 - 1).toNat (by omega)
    rw [← s1]
    exact ⟨this.1.symm, this.2.1⟩
  by_cases g : (σ 7 0 2 ≤ t ∧ t ≤ 999) ∧ (0 ≤ d ∧ d ≤ 999 ∧ (σ 7 0 0 = 0 ∨ σ 40 0 (σ 7 0 0 - 1).toNat < d)) ∧ isSt V s
  · obtain ⟨g1, g2, hs⟩ := g
    have mst : ∀ (τ : St) (Q : Res → St → Prop), τ 14 0 83 = σ 14 0 83 → τ 14 0 85 = σ 14 0 85 → (∀ x, τ 105 0 x = σ 105 0 x) → MT τ V → WP mX13_see 57 [vR 14 0, vI t, vI d, vI s] [vI (b2 (isSt V s))] τ Q → WP mX13_see 0 [vR 14 0, vI t, vI d, vI s] [] τ Q := fun τ Q a1 a2 a3 hT' hq => by
      refine b_X13_see_0 ?_
      rw [a1, a2, a3]
      refine ⟨fun z => absurd ⟨by omega, g1.2⟩ z, fun _ => ⟨fun z => ?_, fun z => ⟨fun z2 => absurd ⟨g2.1, g2.2.1⟩ z2, fun _ => d_isState hV hT' hq⟩⟩⟩
      have := hd (by omega)
      rw [this.1]
      exact ⟨by unfold in32; omega, by omega, by unfold in64; omega, fun z2 => absurd ⟨by omega, g2.2.1⟩ z2, fun _ => d_isState hV hT' hq⟩
    refine b_X11_see_0 ⟨fun z => absurd g1 z, fun _ => ⟨s4, fun z => absurd g2 z, fun _ => c_isState hV hA.1 hA.2.1 ?_⟩⟩
    show WP mX11_see 33 [vR 12 0, vI t, vI d, vI s] [vI (b2 (isSt V s))] σ _
    refine b_X11_see_33 ⟨fun _ => ⟨fun zf => ⟨-3, rfl, mst σ _ rfl rfl (fun _ => rfl) hT (b_X13_see_57 ⟨fun _ => ⟨fun z => by omega, fun _ => ⟨rfl, V, hI⟩⟩, fun z => absurd hs (b2_eq z)⟩)⟩, fun zf => ?_⟩, fun z => absurd hs (b2_eq z)⟩
    refine b_X6_add_0 ⟨by omega, by omega, by omega, by unfold in32; omega, by unfold in32; omega, ?_⟩
    refine b_X11_see_61 ⟨_, rfl, ?_⟩
    obtain ⟨n, hn⟩ : ∃ n : Nat, σ 7 0 0 = n := ⟨(σ 7 0 0).toNat, by omega⟩
    rw [hn, Int.toNat_natCast]
    have F1 : FR (fun c i j => i = 0 ∧ (c = 7 ∨ (40 ≤ c ∧ c ≤ 42))) σ (up (up (up (up (up σ 7 0 2 t) 40 0 n d) 41 0 n t) 42 0 n s) 7 0 0 ((n : Int) + 1)) := ((((FR.rf.u (by omega)).u (by omega)).u (by omega)).u (by omega)).u (by omega)
    have c40 : ∀ x, (up (up (up (up (up σ 7 0 2 t) 40 0 n d) 41 0 n t) 42 0 n s) 7 0 0 ((n : Int) + 1)) 40 0 x = if x = n then d else σ 40 0 x := fun x => by
      rw [up_c (by omega), up_c (by omega), up_c (by omega)]
      by_cases e : x = n
      · rw [if_pos e, e, up_s]
      · rw [if_neg e, up_j e, up_c (by omega)]
    have c41 : ∀ x, (up (up (up (up (up σ 7 0 2 t) 40 0 n d) 41 0 n t) 42 0 n s) 7 0 0 ((n : Int) + 1)) 41 0 x = if x = n then t else σ 41 0 x := fun x => by
      rw [up_c (by omega), up_c (by omega)]
      by_cases e : x = n
      · rw [if_pos e, e, up_s]
      · rw [if_neg e, up_j e, up_c (by omega), up_c (by omega)]
    have c42 : ∀ x, (up (up (up (up (up σ 7 0 2 t) 40 0 n d) 41 0 n t) 42 0 n s) 7 0 0 ((n : Int) + 1)) 42 0 x = if x = n then s else σ 42 0 x := fun x => by
      rw [up_c (by omega)]
      by_cases e : x = n
      · rw [if_pos e, e, up_s]
      · rw [if_neg e, up_j e, up_c (by omega), up_c (by omega), up_c (by omega)]
    have c70 : (up (up (up (up (up σ 7 0 2 t) 40 0 n d) 41 0 n t) 42 0 n s) 7 0 0 ((n : Int) + 1)) 7 0 0 = (n : Int) + 1 := up_s _ _ _ _ _
    have c71 : (up (up (up (up (up σ 7 0 2 t) 40 0 n d) 41 0 n t) 42 0 n s) 7 0 0 ((n : Int) + 1)) 7 0 1 = σ 7 0 1 := by rw [up_j (by omega), up_c (by omega), up_c (by omega), up_c (by omega), up_j (by omega)]
    have c72 : (up (up (up (up (up σ 7 0 2 t) 40 0 n d) 41 0 n t) 42 0 n s) 7 0 0 ((n : Int) + 1)) 7 0 2 = t := by rw [up_j (by omega), up_c (by omega), up_c (by omega), up_c (by omega), up_s]
    generalize (up (up (up (up (up σ 7 0 2 t) 40 0 n d) 41 0 n t) 42 0 n s) 7 0 0 ((n : Int) + 1)) = τ at *
    have q14 : ∀ j, τ 14 0 j = σ 14 0 j := fun j => F1 14 0 j (fun z => by omega)
    have qc : ∀ c j, 46 ≤ c → τ c 0 j = σ c 0 j := fun c j hc => F1 c 0 j (fun z => by omega)
    refine mst τ _ (q14 _) (q14 _) (fun x => qc 105 x (by omega)) (hT.fr F1 (fun c j hc z => by omega)) (b_X13_see_57 ⟨fun _ => ⟨fun _ => ?_, fun z => by rw [q14] at z; omega⟩, fun z => absurd hs (b2_eq z)⟩)
    rw [q14, show σ 14 0 83 = (n : Int) by omega, Int.toNat_natCast]
    refine ⟨by omega, by omega, by omega, by unfold in32; omega, by unfold in32; omega, rfl, V, ?_⟩
    have F2 : FR (fun c i j => i = 0 ∧ ((c = 14 ∧ (83 ≤ j ∧ j ≤ 85)) ∨ (104 ≤ c ∧ c ≤ 106))) τ (up (up (up (up (up τ 14 0 85 t) 104 0 n s) 105 0 n d) 106 0 n t) 14 0 83 ((n : Int) + 1)) := ((((FR.rf.u (by omega)).u (by omega)).u (by omega)).u (by omega)).u (by omega)
    have d104 : ∀ x, (up (up (up (up (up τ 14 0 85 t) 104 0 n s) 105 0 n d) 106 0 n t) 14 0 83 ((n : Int) + 1)) 104 0 x = if x = n then s else σ 104 0 x := fun x => by
      rw [up_c (by omega), up_c (by omega), up_c (by omega)]
      by_cases e : x = n
      · rw [if_pos e, e, up_s]
      · rw [if_neg e, up_j e, up_c (by omega)]; exact qc _ _ (by omega)
    have d105 : ∀ x, (up (up (up (up (up τ 14 0 85 t) 104 0 n s) 105 0 n d) 106 0 n t) 14 0 83 ((n : Int) + 1)) 105 0 x = if x = n then d else σ 105 0 x := fun x => by
      rw [up_c (by omega), up_c (by omega)]
      by_cases e : x = n
      · rw [if_pos e, e, up_s]
      · rw [if_neg e, up_j e, up_c (by omega), up_c (by omega)]; exact qc _ _ (by omega)
    have d106 : ∀ x, (up (up (up (up (up τ 14 0 85 t) 104 0 n s) 105 0 n d) 106 0 n t) 14 0 83 ((n : Int) + 1)) 106 0 x = if x = n then t else σ 106 0 x := fun x => by
      rw [up_c (by omega)]
      by_cases e : x = n
      · rw [if_pos e, e, up_s]
      · rw [if_neg e, up_j e, up_c (by omega), up_c (by omega), up_c (by omega)]; exact qc _ _ (by omega)
    have d83 : (up (up (up (up (up τ 14 0 85 t) 104 0 n s) 105 0 n d) 106 0 n t) 14 0 83 ((n : Int) + 1)) 14 0 83 = (n : Int) + 1 := up_s _ _ _ _ _
    have d84 : (up (up (up (up (up τ 14 0 85 t) 104 0 n s) 105 0 n d) 106 0 n t) 14 0 83 ((n : Int) + 1)) 14 0 84 = σ 14 0 84 := by rw [up_j (by omega), up_c (by omega), up_c (by omega), up_c (by omega), up_j (by omega)]; exact q14 _
    have d85 : (up (up (up (up (up τ 14 0 85 t) 104 0 n s) 105 0 n d) 106 0 n t) 14 0 83 ((n : Int) + 1)) 14 0 85 = t := by rw [up_j (by omega), up_c (by omega), up_c (by omega), up_c (by omega), up_s]
    generalize (up (up (up (up (up τ 14 0 85 t) 104 0 n s) 105 0 n d) 106 0 n t) 14 0 83 ((n : Int) + 1)) = υ at *
    have r7 : ∀ c j, c < 46 → c ≠ 14 → υ c 0 j = τ c 0 j := fun c j hc hne => F2 c 0 j (fun z => by omega)
    have r43 : ∀ c j, 43 ≤ c → c ≤ 45 → υ c 0 j = σ c 0 j := fun c j h1 h2 => by rw [r7 c j (by omega) (by omega)]; exact F1 c 0 j (fun z => by omega)
    have r107 : ∀ c j, 107 ≤ c → υ c 0 j = σ c 0 j := fun c j h1 => by rw [F2 c 0 j (fun z => by omega)]; exact qc c j (by omega)
    refine hI.sn ((F1.wk (fun c i j z => by omega)).tr (F2.wk (fun c i j z => by omega))) ?_
    unfold ISN
    rw [r7 7 0 (by omega) (by omega), r7 7 1 (by omega) (by omega), r7 7 2 (by omega) (by omega), c70, c71, c72, d83, d84, d85]
    refine ⟨rfl, s2, rfl, by omega, s5, by omega, fun k hk => ?_, fun k hk => ?_⟩
    · rw [r7 40 k (by omega) (by omega), r7 41 k (by omega) (by omega), r7 42 k (by omega) (by omega), c40, c41, c42, d104, d105, d106]
      by_cases e : k = n
      · rw [if_pos e, if_pos e, if_pos e, if_pos e, if_pos e, if_pos e]; exact ⟨rfl, ⟨g2.1, g2.2.1⟩, rfl, rfl, hs⟩
      · rw [if_neg e, if_neg e, if_neg e, if_neg e, if_neg e, if_neg e]; exact s7 k (by omega)
    · rw [r43 43 k (by omega) (by omega), r43 44 k (by omega) (by omega), r43 45 k (by omega) (by omega), r107 107 k (by omega), r107 108 k (by omega), r107 109 k (by omega)]
      exact s8 k hk
  · refine PRC.same (-2) hI (fun Q h => b_X11_see_0 ⟨fun _ => h, fun g1 => ⟨s4, fun _ => h, fun g2 => c_isState hV hA.1 hA.2.1 (b_X11_see_33 ⟨fun z => absurd ⟨g1, g2, b2_ne z⟩ g, fun _ => h⟩)⟩⟩) (fun Q h => b_X13_see_0 ⟨fun _ => h, fun g1 => ⟨fun z => ?_, fun z => ⟨fun _ => h, fun g2 => d_isState hV hT (b_X13_see_57 ⟨fun z2 => absurd ⟨⟨by omega, g1.2⟩, ⟨g2.1, g2.2, Or.inl (by omega)⟩, b2_ne z2⟩ g, fun _ => h⟩)⟩⟩⟩)
    have := hd (by omega)
    rw [this.1]
    exact ⟨by unfold in32; omega, by omega, by unfold in64; omega, fun _ => h, fun g2 => d_isState hV hT (b_X13_see_57 ⟨fun z2 => absurd ⟨⟨by omega, g1.2⟩, ⟨by omega, g2.2, Or.inr (by omega)⟩, b2_ne z2⟩ g, fun _ => h⟩)⟩
end Calls6
