/-! ===== the class' Rests: retreat, advance ===== -/
section CR3
variable {i j : Nat} {σ : St} {Q : Res → St → Prop} {V : Vy} {s t : Int} {mo ta : Nat → Int} {M : Int}
theorem c_retreat {d o : Nat} (hV : VOK V) (hI : TI V mo ta M i σ d o) (hd : 0 < d) (hs : σ 35 i (d - 1) = s) (hdone : ∀ u, E V s u → u = s ∨ xE V mo ta M (σ 34 i) s u) (h : ∀ υ o', FR (rsP i) σ υ → TI V mo ta M i υ (d - 1) o' → υ 5 i 13 = σ 5 i 13 → υ 34 i = σ 34 i → υ 35 i = σ 35 i → υ 32 i = σ 32 i → Q (.inl none) υ) : WP mX4_retreat 0 [vR 5 i, vI s, vU] [] σ Q := by
  have hen := hI.en
  have htop := (hI.top hd).1
  rw [hs] at htop
  obtain ⟨hA, hB, hC, hK, r1, r2, r3, r4, r5, r6, r7, r8, r9⟩ := id hI
  have hsb := st_bd hV htop.1
  have stpa : ∀ e, e < d → isSt V (σ 35 i e) := fun e he => (hA.2.2.1 e he).1
  refine b_X4_retreat_0 ⟨by unfold in32; omega, ⟨by omega, by omega⟩, ⟨by omega, by omega⟩, fun hne => ?_, fun heq => ?_⟩
  · -- s stays open
    have hlo : tL σ i s ≠ tO σ i s := hne
    have hd1 : 1 < d := (T_ret (lo' := fun x => if x = σ 35 i (d - 2) then min (tL σ i x) (tL σ i s) else tL σ i x) hV hA hB hd hs hdone hlo (fun x _ _ => rfl)).1
    have hbb := st_bd hV (stpa (d - 2) (by omega))
    have e11 : (up σ 5 i 11 (σ 5 i 11 - 1)) 5 i 11 - 1 = ((d - 2 : Nat) : Int) := by rw [up_s, r4]; omega
    have e2 : ∀ c, c ≠ 5 → (up σ 5 i 11 (σ 5 i 11 - 1)) c = σ c := fun c hc => by funext a b; exact up_c hc
    have n11 : (up σ 5 i 11 (σ 5 i 11 - 1)) 5 i 11 ≠ 0 := by rw [up_s, r4]; omega
    refine b_X4_retreat_30 ?_
    rw [e11, Int.toNat_natCast, e2 28 (by omega), e2 35 (by omega), e2 33 (by omega), e2 27 (by omega)]
    refine ⟨fun _ => ⟨by unfold in32; omega, ⟨by omega, by omega⟩, ⟨by omega, by omega⟩, fun z => absurd htop.2.2 z, fun _ => ⟨⟨by omega, by omega⟩, ⟨by omega, by omega⟩, ⟨by omega, by omega⟩, ?_⟩⟩, fun z => absurd z n11⟩
    have u5 : ∀ k, (up (up σ 5 i 11 (σ 5 i 11 - 1)) 33 i (σ 35 i (d - 2)).toNat (min (σ 33 i (σ 35 i (d - 2)).toNat) (σ 33 i s.toNat))) 5 i k = if k = 11 then σ 5 i 11 - 1 else σ 5 i k := fun k => by simp [up]
    have u33 : ∀ x, (up (up σ 5 i 11 (σ 5 i 11 - 1)) 33 i (σ 35 i (d - 2)).toNat (min (σ 33 i (σ 35 i (d - 2)).toNat) (σ 33 i s.toNat))) 33 i x = if x = (σ 35 i (d - 2)).toNat then min (σ 33 i (σ 35 i (d - 2)).toNat) (σ 33 i s.toNat) else σ 33 i x := fun x => by simp [up]
    have uc : ∀ c, c ≠ 5 → c ≠ 33 → (up (up σ 5 i 11 (σ 5 i 11 - 1)) 33 i (σ 35 i (d - 2)).toNat (min (σ 33 i (σ 35 i (d - 2)).toNat) (σ 33 i s.toNat))) c = σ c := fun c h1 h2 => by funext a b; rw [up_c h2, up_c h1]
    have uF : FR (rsP i) σ (up (up σ 5 i 11 (σ 5 i 11 - 1)) 33 i (σ 35 i (d - 2)).toNat (min (σ 33 i (σ 35 i (d - 2)).toNat) (σ 33 i s.toNat))) := (FR.rf.u ⟨rfl, by omega⟩).u ⟨rfl, by omega⟩
    generalize (up (up σ 5 i 11 (σ 5 i 11 - 1)) 33 i (σ 35 i (d - 2)).toNat (min (σ 33 i (σ 35 i (d - 2)).toNat) (σ 33 i s.toNat))) = υ at *
    have tt := T_ret (lo' := tL υ i) hV hA hB hd hs hdone hlo (fun x hx _ => by
      unfold tL
      rw [u33]
      by_cases c : x = σ 35 i (d - 2)
      · rw [if_pos c, if_pos (by rw [c]), c]
      · rw [if_neg c, if_neg (ne_nat hx (stpa (d - 2) (by omega)) c)])
    refine h υ o uF ?_ (by rw [u5, if_neg (by omega)]) (by rw [uc 34 (by omega) (by omega)]) (by rw [uc 35 (by omega) (by omega)]) (by rw [uc 32 (by omega) (by omega)])
    have eo : tO υ i = tO σ i := by funext x; unfold tO; rw [uc 32 (by omega) (by omega)]
    have ey : tY υ i = tY σ i := by funext x; unfold tY; rw [uc 28 (by omega) (by omega)]
    have eh : hm υ i = hm σ i := by funext x; unfold hm; rw [uc 27 (by omega) (by omega)]
    unfold TI ARR
    rw [eo, ey, eh, uc 34 (by omega) (by omega), uc 35 (by omega) (by omega), uc 36 (by omega) (by omega), uc 32 (by omega) (by omega)]
    have v0 : υ 5 i 0 = σ 5 i 0 := by rw [u5, if_neg (by omega)]
    have v11 : υ 5 i 11 = σ 5 i 11 - 1 := by rw [u5, if_pos rfl]
    have v12 : υ 5 i 12 = σ 5 i 12 := by rw [u5, if_neg (by omega)]
    have v13 : υ 5 i 13 = σ 5 i 13 := by rw [u5, if_neg (by omega)]
    rw [v0, v11, v12, v13]
    exact ⟨tt.2.1, tt.2.2, hC, hK, r1, r2, r3, by omega, r5, r6, by omega, r8, r9⟩
  · -- s is closed
    have hlo : tL σ i s = tO σ i s := heq
    obtain ⟨c0, hc0, hcs⟩ := r3 s htop
    have e2 : ∀ c, c ≠ 5 → (up σ 5 i 11 (σ 5 i 11 - 1)) c = σ c := fun c hc => by funext a b; exact up_c hc
    have e5 : ∀ k, k ≠ 11 → (up σ 5 i 11 (σ 5 i 11 - 1)) 5 i k = σ 5 i k := fun k hk => up_j hk
    have e11 : (up σ 5 i 11 (σ 5 i 11 - 1)) 5 i 11 = ((d - 1 : Nat) : Int) := by rw [up_s, r4]; omega
    have eF : FR (rsP i) σ (up σ 5 i 11 (σ 5 i 11 - 1)) := FR.rf.u ⟨rfl, by omega⟩
    generalize (up σ 5 i 11 (σ 5 i 11 - 1)) = τ at *
    have cC : ∀ x, isSt V x → ((Op V (tO σ i) (tY σ i) x ∧ tO σ i s ≤ tO σ i x) ↔ ∃ a : Nat, c0 ≤ a ∧ a < o ∧ (σ 36 i a).toNat = x.toNat) := fun x hx => by
      refine ⟨fun z => ?_, fun ⟨a, a1, a2, a3⟩ => ?_⟩
      · obtain ⟨a, a1, a2⟩ := r3 x z.1
        refine ⟨a, ?_, a1, by rw [a2]⟩
        apply Classical.byContradiction
        intro q
        have := r2 a c0 (by omega) hc0
        rw [a2, hcs] at this
        have := z.2
        omega
      · have ho := r1 a a2
        have ex : σ 36 i a = x := Classical.byContradiction (fun q => ne_nat ho.1 hx q a3)
        rw [← ex]
        refine ⟨ho, ?_⟩
        rcases Nat.lt_or_eq_of_le a1 with q | q
        · have := r2 c0 a q a2
          rw [hcs] at this; omega
        · rw [← q, hcs]; omega
    refine c_close (o := o) (c0 := c0) (nu := σ 5 i 0) (xe := xE V mo ta M (σ 34 i)) (by rw [e5 12 (by omega), r5]) (by omega) (e5 0 (by omega)) ⟨hen.2.2.1, by omega⟩ (fun a ha => by rw [e2 36 (by omega)]; exact st_bd hV (r1 a ha).1) hc0 (by rw [e2 36 (by omega)]; exact hcs) (fun a h1 h2 z => by
      rw [e2 36 (by omega)] at z
      have := r2 c0 a h1 h2
      rw [z, hcs] at this; omega) (fun a ha => by rw [e2 36 (by omega), e2 28 (by omega), e2 27 (by omega)]; exact hC _ (r1 a ha)) ?_
    rw [e2 36 (by omega), e2 28 (by omega), e2 27 (by omega)]
    intro υ1 g f1 hg hin hout hc5 h5
    replace f1 : FR (rsP i) σ υ1 := eF.tr f1
    rw [e11, e5 13 (by omega)] at h5
    replace hc5 : ∀ c, 32 ≤ c → c ≤ 36 → υ1 c i = σ c i := fun c h1 h2 => by rw [hc5 c h1 h2, e2 c (by omega)]
    have hg' : JO (tY σ i) (σ 5 i 0) (fun t => ∃ x, Op V (tO σ i) (tY σ i) x ∧ tO σ i s ≤ tO σ i x ∧ xE V mo ta M (σ 34 i) x t ∧ tY σ i t ≠ -5) g := by
      refine hg.cg (Int.le_refl _) (fun u => ⟨fun ⟨a, a1, a2, a3, a4⟩ => ?_, fun ⟨x, x1, x2, x3, x4⟩ => ?_⟩) (fun _ _ => rfl)
      · have := (cC _ (r1 a a2).1).mpr ⟨a, a1, a2, rfl⟩
        exact ⟨_, this.1, this.2, a3, a4⟩
      · obtain ⟨a, a1, a2, a3⟩ := (cC x x1.1).mp ⟨x1, x2⟩
        have ex : σ 36 i a = x := Classical.byContradiction (fun q => ne_nat (r1 a a2).1 x1.1 q a3)
        exact ⟨a, a1, a2, by rw [ex]; exact x3, x4⟩
    have fin : ∀ υ, FR (rsP i) σ υ → υ 28 i = υ1 28 i → (∀ x : Nat, υ 27 i x = if 1 < d ∧ x = (σ 35 i (d - 2)).toNat then jn (υ1 27 i x) (υ1 28 i s.toNat) else υ1 27 i x) → (∀ c, 32 ≤ c → c ≤ 36 → υ c i = σ c i) → (∀ k, υ 5 i k = υ1 5 i k) → Q (.inl none) υ := fun υ v1 v2 v3 v4 v5 => by
      have eo : tO υ i = tO σ i := by funext x; unfold tO; rw [v4 32 (by omega) (by omega)]
      have el : tL υ i = tL σ i := by funext x; unfold tL; rw [v4 33 (by omega) (by omega)]
      have bC : 1 < d → ¬ ∃ a : Nat, c0 ≤ a ∧ a < o ∧ (σ 36 i a).toNat = (σ 35 i (d - 2)).toNat := fun q z => by
        have := ((cC _ (stpa (d - 2) (by omega))).mpr z).2
        have h9 := hA.2.2.2.1 (d - 2) (d - 1) (by omega) (by omega)
        rw [hs] at h9; omega
      have tt := T_close (oy' := tY υ i) (hy' := hm υ i) (nu' := υ 5 i 0) hV hA hB hC hK hd hs hdone hlo hg' (fun x h1 h2 => by
          unfold tY
          rw [v2]
          exact (hin _ ((cC x h1.1).mp ⟨h1, h2⟩)).1) (fun x h1 h2 => by
          unfold tY
          rw [v2]
          exact (hout _ (fun z => h2 ((cC x h1).mpr z))).1) (fun x h1 h2 => by
          have z := (cC x h1.1).mp ⟨h1, h2⟩
          unfold hm
          rw [v3, if_neg (fun q => bC q.1 (by rw [← q.2]; exact z))]
          exact (hin _ z).2) (fun q => by
          unfold hm tY
          rw [v2, v3, if_pos ⟨q, rfl⟩, (hout _ (bC q)).2]) (fun x h1 h2 h3 => by
          unfold hm
          rw [v3, if_neg (fun q => ne_nat h1 (stpa (d - 2) (by omega)) (h3 q.1) q.2)]
          exact (hout _ (fun z => h2 ((cC x h1).mpr z))).2) (by rw [v5]; exact h5.1)
      obtain ⟨⟨k1, k2, k3, k4⟩, kop⟩ := tt
      refine h υ c0 v1 ?_ (by rw [v5]; exact h5.2.2.2) (v4 34 (by omega) (by omega)) (v4 35 (by omega) (by omega)) (v4 32 (by omega) (by omega))
      unfold TI ARR
      rw [eo, el, v4 34 (by omega) (by omega), v4 35 (by omega) (by omega), v4 36 (by omega) (by omega), v4 32 (by omega) (by omega)]
      have e13 : υ 5 i 13 = σ 5 i 13 := by rw [v5]; exact h5.2.2.2
      rw [e13]
      refine ⟨k1, k2, k3, k4, fun a ha => ?_, fun a b hab hb => r2 a b hab (by omega), fun x hx => ?_, by rw [v5]; exact h5.2.1, by rw [v5]; exact h5.2.2.1, ?_, by omega, r8, fun x hx => r9 x ((kop x).mp hx).1⟩
      · refine (kop _).mpr ⟨r1 a (by omega), ?_⟩
        have := r2 a c0 ha hc0
        rw [hcs] at this; exact this
      · obtain ⟨x1, x2⟩ := (kop x).mp hx
        obtain ⟨a, a1, a2⟩ := r3 x x1
        refine ⟨a, ?_, a2⟩
        apply Classical.byContradiction
        intro q
        have := ((cC x x1.1).mpr ⟨a, by omega, a1, by rw [a2]⟩).2
        omega
      · rw [v5, h5.1]; split <;> omega
    have s5 : υ1 28 i s.toNat ≠ -5 := by
      rw [(hin s.toNat ⟨c0, Nat.le_refl _, hc0, by rw [hcs]⟩).1]
      have := hen.2.2.1
      rcases hg with q | q | q
      · rw [if_pos q.1]; omega
      · rw [if_neg (by omega)]; omega
      · rw [if_neg (by omega)]; omega
    show WP mX4_retreat 30 [vR 5 i, vI s, vU] [] υ1 Q
    refine b_X4_retreat_30 ?_
    rw [h5.2.1]
    refine ⟨fun z => ?_, fun z => ?_⟩
    · have hd1 : 1 < d := by omega
      have hbb := st_bd hV (stpa (d - 2) (by omega))
      rw [show (((d - 1 : Nat) : Int) - 1) = ((d - 2 : Nat) : Int) by omega, Int.toNat_natCast, hc5 35 (by omega) (by omega)]
      refine ⟨by unfold in32; omega, ⟨by omega, by omega⟩, ⟨by omega, by omega⟩, fun _ => ⟨⟨by omega, by omega⟩, ⟨by omega, by omega⟩, ⟨by omega, by omega⟩, ?_⟩, fun q => absurd q s5⟩
      refine fin _ (f1.u ⟨rfl, by omega⟩) (by funext x; exact up_c (by omega)) (fun x => ?_) (fun c h1 h2 => by rw [← hc5 c h1 h2]; funext x; exact up_c (by omega)) (fun k => up_c (by omega))
      by_cases c : x = (σ 35 i (d - 2)).toNat
      · rw [if_pos ⟨hd1, c⟩, c, up_s]
      · rw [if_neg (fun q => c q.2), up_j c]
    · exact fin υ1 f1 rfl (fun x => by rw [if_neg (by omega)]) hc5 (fun _ => rfl)
theorem c_advance {d o : Nat} (hV : VOK V) (hA : VA σ j V) (hR : REP σ j V) (hmo : ∀ k, σ 58 j k = mo k) (hta : ∀ k, σ 59 j k = ta k) (hM : σ 10 j 13 = M) (hI : TI V mo ta M i σ d o) (hd : 0 < d) (h : ∀ υ d' o', FR (rsP i) σ υ → TI V mo ta M i υ d' o' → mu i υ d' < mu i σ d → (∀ x, isSt V x → σ 32 i x.toNat ≠ 0 → υ 32 i x.toNat ≠ 0) → Q (.inl none) υ) : WP mX4_advance 0 [vR 5 i, vR 2 j, vU, vU] [] σ Q := by
  have hen := hI.en
  obtain ⟨htop, hdis⟩ := hI.top hd
  have r4 := hI.2.2.2.2.2.2.2.1
  have r5 := hI.2.2.2.2.2.2.2.2.1
  have r6 := hI.2.2.2.2.2.2.2.2.2.1
  have r7 := hI.2.2.2.2.2.2.2.2.2.2.1
  have r9 := hI.2.2.2.2.2.2.2.2.2.2.2.2
  have hMb := hA.2.2.2.2.1
  rw [hM] at hMb
  have h34 := r9 _ htop
  refine b_X4_advance_0 ?_
  rw [r4, show ((d : Int) - 1) = ((d - 1 : Nat) : Int) by omega, Int.toNat_natCast]
  have stpa : ∀ e, e < d → isSt V (σ 35 i e) := fun e he => (hI.1.2.2.1 e he).1
  generalize hs : σ 35 i (d - 1) = s at *
  have hsb := st_bd hV htop.1
  have mt := mu_top (i := i) (σ := σ) hd
  rw [hs] at mt
  have nn : ∀ e, e < d - 1 → (σ 35 i e).toNat ≠ s.toNat := fun e he => ne_nat (stpa e (by omega)) htop.1 (hdis e he)
  refine ⟨by unfold in32; omega, ⟨by omega, by omega⟩, ?_⟩
  refine c_nextMove hV hA hR hmo hta hM htop.1 h34.1 h34.2 (fun τ f1 t34 tX tD => ?_) (fun τ t f1 t34 t34' tX tE tne => ?_)
  · -- no MOVE is left
    show WP mX4_advance 18 [vR 5 i, vU, vI s, vU] [vI (-1)] τ Q
    refine b_X4_advance_18 ⟨fun z => absurd rfl z, fun _ => ?_⟩
    have hI' := TI_34 hI f1 tX (by rw [t34]; omega)
    have e35 : τ 35 i = σ 35 i := by funext x; exact f1 35 i x (fun z => by unfold nmP at z; omega)
    refine c_retreat hV hI' hd (by rw [e35]; exact hs) (fun u hu => (tD u hu).imp_right (tX s u htop.1).mpr) (fun υ o' u1 u2 u13 u34 u35 u32 => ?_)
    show WP mX4_advance 29 [vU, vU, vU, vU] [] υ Q
    have e5 : ∀ k, τ 5 i k = σ 5 i k := fun k => f1 5 i k (fun z => by unfold nmP at z; omega)
    have e32 : τ 32 i = σ 32 i := by funext x; exact f1 32 i x (fun z => by unfold nmP at z; omega)
    refine b_X4_advance_29 (h υ (d - 1) o' ((f1.wk (fun c a b z => ⟨z.1, by have := z.2.1; omega⟩)).tr u1) u2 ?_ (fun x hx z => by rw [u32, e32]; exact z))
    rw [mt]
    unfold mu
    rw [u13, e5, u34, u35, e35, sm_congr (f := fun e => 41 - τ 34 i (σ 35 i e).toNat) (g := fun e => 41 - σ 34 i (σ 35 i e).toNat) (fun e he => by
      show 41 - τ 34 i (σ 35 i e).toNat = 41 - σ 34 i (σ 35 i e).toNat
      rw [f1 34 i _ (fun z => nn e he z.2.2)])]
    omega
  · -- a MOVE to t
    have ht := tE.st hV htop.1
    have htb := st_bd hV ht
    have ec : ∀ c, c ≠ 34 → τ c = σ c := fun c hc => by
      funext a b
      exact f1 c a b (fun z => hc z.2.1)
    have F1 : FR (rsP i) σ τ := f1.wk (fun c a b z => ⟨z.1, by have := z.2.1; omega⟩)
    have smS : ∀ υ : St, υ 35 i = σ 35 i → υ 34 i = τ 34 i → sm (fun e => 41 - υ 34 i (υ 35 i e).toNat) (d - 1) = sm (fun e => 41 - σ 34 i (σ 35 i e).toNat) (d - 1) := fun υ v1 v2 => by
      rw [v1, v2]
      refine sm_congr (fun e he => ?_)
      show 41 - τ 34 i (σ 35 i e).toNat = 41 - σ 34 i (σ 35 i e).toNat
      rw [f1 34 i _ (fun z => nn e he z.2.2)]
    obtain ⟨gA, gB, gC, gK, g1, g2, g3, g4, g5, g6, g7, g8, g9⟩ := id hI
    show WP mX4_advance 18 [vR 5 i, vU, vI s, vU] [vI t] τ Q
    refine b_X4_advance_18 ?_
    rw [ec 32 (by omega), ec 28 (by omega), ec 27 (by omega), ec 33 (by omega)]
    refine ⟨fun _ => ⟨⟨by omega, by omega⟩, fun hne => ⟨⟨by omega, by omega⟩, fun hcl => ⟨⟨by omega, by omega⟩, ⟨by omega, by omega⟩, ⟨by omega, by omega⟩, ?_⟩, fun hop => ⟨⟨by omega, by omega⟩, ⟨by omega, by omega⟩, ⟨by omega, by omega⟩, ?_⟩⟩, fun h0 => ?_⟩, fun z => by omega⟩
    · -- t is closed
      have uc : ∀ c, c ≠ 34 → c ≠ 27 → (up τ 27 i s.toNat (jn (σ 27 i s.toNat) (σ 28 i t.toNat))) c = σ c := fun c h1 h2 => by
        funext a b
        rw [up_c h2, ec c h1]
      have u34 : (up τ 27 i s.toNat (jn (σ 27 i s.toNat) (σ 28 i t.toNat))) 34 i = τ 34 i := by funext x; exact up_c (by omega)
      have u27 : ∀ x, (up τ 27 i s.toNat (jn (σ 27 i s.toNat) (σ 28 i t.toNat))) 27 i x = if x = s.toNat then jn (σ 27 i s.toNat) (σ 28 i t.toNat) else σ 27 i x := fun x => by
        rw [← ec 27 (by omega)]
        simp [up]
      have uF : FR (rsP i) σ (up τ 27 i s.toNat (jn (σ 27 i s.toNat) (σ 28 i t.toNat))) := F1.u ⟨rfl, by omega⟩
      generalize (up τ 27 i s.toNat (jn (σ 27 i s.toNat) (σ 28 i t.toNat))) = υ at *
      have eo : tO υ i = tO σ i := by funext x; unfold tO; rw [uc 32 (by omega) (by omega)]
      have el : tL υ i = tL σ i := by funext x; unfold tL; rw [uc 33 (by omega) (by omega)]
      have ey : tY υ i = tY σ i := by funext x; unfold tY; rw [uc 28 (by omega) (by omega)]
      have tt := T_join (hy' := hm υ i) (xe' := xE V mo ta M (τ 34 i)) hV gA gB gC gK hd hs ht hne hcl tE tne (fun x hx => by
        unfold hm tY
        rw [u27]
        by_cases c : x = s
        · rw [if_pos c, if_pos (by rw [c])]
        · rw [if_neg c, if_neg (ne_nat hx htop.1 c)]) tX
      refine h υ d o uF ?_ ?_ (fun x hx z => by rw [uc 32 (by omega) (by omega)]; exact z)
      · unfold TI ARR
        rw [eo, el, ey, u34, uc 35 (by omega) (by omega), uc 36 (by omega) (by omega), uc 32 (by omega) (by omega), uc 5 (by omega) (by omega)]
        refine ⟨tt.1, tt.2.1, tt.2.2.1, tt.2.2.2, g1, g2, g3, g4, g5, g6, g7, g8, fun x hx => ?_⟩
        by_cases c : x.toNat = s.toNat
        · rw [c]; omega
        · rw [f1 34 i _ (fun z => c z.2.2)]; exact g9 x hx
      · rw [mt, mu_top hd, uc 5 (by omega) (by omega), smS υ (by rw [uc 35 (by omega) (by omega)]) u34, uc 35 (by omega) (by omega), hs, u34]
        omega
    · -- t is open
      have uc : ∀ c, c ≠ 34 → c ≠ 33 → (up τ 33 i s.toNat (min (σ 33 i s.toNat) (σ 32 i t.toNat))) c = σ c := fun c h1 h2 => by
        funext a b
        rw [up_c h2, ec c h1]
      have u34 : (up τ 33 i s.toNat (min (σ 33 i s.toNat) (σ 32 i t.toNat))) 34 i = τ 34 i := by funext x; exact up_c (by omega)
      have u33 : ∀ x, (up τ 33 i s.toNat (min (σ 33 i s.toNat) (σ 32 i t.toNat))) 33 i x = if x = s.toNat then min (σ 33 i s.toNat) (σ 32 i t.toNat) else σ 33 i x := fun x => by
        rw [← ec 33 (by omega)]
        simp [up]
      have uF : FR (rsP i) σ (up τ 33 i s.toNat (min (σ 33 i s.toNat) (σ 32 i t.toNat))) := F1.u ⟨rfl, by omega⟩
      generalize (up τ 33 i s.toNat (min (σ 33 i s.toNat) (σ 32 i t.toNat))) = υ at *
      have eo : tO υ i = tO σ i := by funext x; unfold tO; rw [uc 32 (by omega) (by omega)]
      have eh : hm υ i = hm σ i := by funext x; unfold hm; rw [uc 27 (by omega) (by omega)]
      have ey : tY υ i = tY σ i := by funext x; unfold tY; rw [uc 28 (by omega) (by omega)]
      have tt := T_low (lo' := tL υ i) (xe' := xE V mo ta M (τ 34 i)) hV gA gB gC hd hs ⟨ht, hne, hop⟩ tE tne (fun x hx => by
        unfold tL tO
        rw [u33]
        by_cases c : x = s
        · rw [if_pos c, if_pos (by rw [c])]
        · rw [if_neg c, if_neg (ne_nat hx htop.1 c)]) tX
      refine h υ d o uF ?_ ?_ (fun x hx z => by rw [uc 32 (by omega) (by omega)]; exact z)
      · unfold TI ARR
        rw [eo, eh, ey, u34, uc 35 (by omega) (by omega), uc 36 (by omega) (by omega), uc 32 (by omega) (by omega), uc 5 (by omega) (by omega)]
        refine ⟨gA, tt.1, tt.2, gK, g1, g2, g3, g4, g5, g6, g7, g8, fun x hx => ?_⟩
        by_cases c : x.toNat = s.toNat
        · rw [c]; omega
        · rw [f1 34 i _ (fun z => c z.2.2)]; exact g9 x hx
      · rw [mt, mu_top hd, uc 5 (by omega) (by omega), smS υ (by rw [uc 35 (by omega) (by omega)]) u34, uc 35 (by omega) (by omega), hs, u34]
        omega
    · -- t is entered
      have hlt := hI.en_lt hV ht h0
      refine c_enter ht hV (by rw [ec 5 (by omega)]; omega) (by rw [ec 5 (by omega)]; omega) (by rw [ec 5 (by omega)]; omega) ?_
      rw [ec 5 (by omega), ec 32 (by omega), ec 33 (by omega), ec 35 (by omega), ec 36 (by omega), ec 27 (by omega), ec 28 (by omega)]
      intro υ uF u32 u33 u34 u35 u36 u2 u5
      have st : s.toNat ≠ t.toNat := ne_nat htop.1 ht (fun z => tne z.symm)
      have xo : ∀ x u, isSt V x → x ≠ t → (xE V mo ta M (υ 34 i) x u ↔ xE V mo ta M (τ 34 i) x u) := fun x u hx hn => by
        unfold xE
        rw [u34, if_neg (ne_nat hx ht hn)]
      have hI' := TI_enter (υ := υ) hV hI (by omega) ht h0 (Or.inr (by rw [hs]; exact tE)) u32 u33 (by rw [u34, if_pos rfl]) (fun x hx => by
        have xt : x ≠ t := fun z => hx.2.1 (by rw [z]; exact h0)
        rw [u34, if_neg (ne_nat hx.1 ht xt)]
        by_cases c : x.toNat = s.toNat
        · rw [c]; omega
        · rw [f1 34 i _ (fun z => c z.2.2)]; exact g9 x hx) (fun x u hx hn => by
        rw [xo x u hx hn, tX x u hx, hs]
        exact ⟨fun z => z.imp_right (fun q => ⟨hd, q.1, q.2⟩), fun z => z.imp_right (fun q => ⟨q.2.1, q.2.2⟩)⟩) u35 u36 u2 u5
      show WP mX4_advance 46 [vU, vU, vU, vU] [] υ Q
      refine b_X4_advance_46 (h υ (d + 1) (o + 1) (F1.tr uF) hI' ?_ (fun x hx z => ?_))
      · have pe' : ∀ e, e < d → υ 35 i e = σ 35 i e := fun e he => by rw [u35, r4, Int.toNat_natCast, if_neg (by omega)]
        have pd' : υ 35 i d = t := by rw [u35, r4, Int.toNat_natCast, if_pos rfl]
        rw [mt, mu_top (by omega), show d + 1 - 1 = d by omega, pd', u34, if_pos rfl, u5.2.2.2]
        have e1 : sm (fun e => 41 - υ 34 i (υ 35 i e).toNat) d = sm (fun e => 41 - σ 34 i (σ 35 i e).toNat) (d - 1) + (41 - τ 34 i s.toNat) := by
          obtain ⟨d1, rfl⟩ : ∃ e, d = e + 1 := ⟨d - 1, by omega⟩
          simp only [Nat.add_sub_cancel] at hs nn ⊢
          rw [sm, pe' d1 (by omega), hs, u34, if_neg st]
          congr 1
          refine sm_congr (fun e he => ?_)
          show 41 - υ 34 i (υ 35 i e).toNat = 41 - σ 34 i (σ 35 i e).toNat
          have hst := hI.1.2.2.1 e (by omega)
          rw [pe' e (by omega), u34, if_neg (ne_nat hst.1 ht (fun z => hst.2.1 (by rw [z]; exact h0))), f1 34 i _ (fun z => nn e he z.2.2)]
        rw [e1]
        omega
      · rw [u32]
        split
        · omega
        · exact z
end CR3
