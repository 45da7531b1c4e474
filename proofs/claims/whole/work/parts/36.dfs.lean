/-! ===== the model's deepen, findOrder ===== -/
def efree (V : Vy) (s k : Int) : Prop := tbit (ans V s (k / ha V).toNat) (k % ha V).toNat = true
section Dfs
variable {σ : St} {Q : Res → St → Prop} {V : Vy} {s t : Int}
theorem e_k (hV : VOK V) (hs : isSt V s) (h : E V s t) (hne : t ≠ s) : ∃ k : Nat, (k : Int) < pe V * ha V ∧ stV V s k = t ∧ efree V s k := by
  obtain ⟨p, hp, hk, x, h0, h1, h2, h3⟩ := h
  obtain ⟨k, k1, k2, k3⟩ := kk_of hV hp h0 h1
  refine ⟨k, k1, ?_, ?_⟩
  · unfold stV
    rw [k2, k3, if_neg (fun z => z.elim (fun z => z hk) (fun z => hne (by rw [h2]; exact z))), h2]
  · unfold efree
    rw [k2, k3]; exact h3
theorem k_e (hV : VOK V) {k : Int} (h0 : 0 ≤ k) (h1 : k < pe V * ha V) (h : stV V s k ≠ -1) (hf : efree V s k) : E V s (stV V s k) := by
  have hb := kk_bd hV h0 h1
  unfold stV at h ⊢
  by_cases c : ke V (k / ha V).toNat ≠ -1 ∨ wi V s (k / ha V).toNat (k % ha V) = s
  · rw [if_pos c] at h; exact absurd rfl h
  · rw [if_neg c]
    exact ⟨(k / ha V).toNat, by omega, Classical.byContradiction (fun z => c (Or.inl z)), k % ha V, hb.2.1, hb.2.2, rfl, hf⟩
theorem free_iff (hV : VOK V) (hR : MRP σ V) (hs : isSt V s) {k : Int} (h0 : 0 ≤ k) (h1 : k < pe V * ha V) : (band (shr (σ 78 0 (((10 * s) + (k / ha V)).toNat)) (k % ha V)) 1 = 1) ↔ efree V s k := by
  have hb := kk_bd hV h0 h1
  have hpe := hV.pe
  have hha := hV.ha
  have e := hR.2 s hs (k / ha V).toNat (by omega)
  rw [Int.toNat_of_nonneg hb.1.1] at e
  have ab := ans_bd hV s (p := (k / ha V).toNat) (by omega)
  rw [e]
  exact band_eq1 ab.1 (by omega) hb.2.1 (by omega)
def mk (σ : St) (s : Int) : Prop := σ 89 0 s.toNat ≠ 0
def oP (c i j : Nat) : Prop := i = 0 ∧ (c = 80 ∨ c = 81 ∨ c = 82 ∨ c = 89 ∨ (c = 14 ∧ j = 50))
def D7 (V : Vy) (τ : St) : Prop := ∀ a : Nat, (a : Int) < τ 14 0 50 → ∀ v, E V (τ 80 0 a) v → mk τ v ∧ ((∃ b : Nat, b < a ∧ τ 80 0 b = v) ∨ ∀ c : Nat, a ≤ c → (c : Int) < τ 14 0 50 → (∃ b : Nat, b ≤ c ∧ τ 80 0 b = v) ∨ Rch V v (τ 80 0 c))
def D10 (τ : St) (deep : Nat) : Prop := (∀ a b : Nat, a < b → (b : Int) < τ 14 0 50 → τ 80 0 a ≠ τ 80 0 b) ∧ (∀ a d : Nat, (a : Int) < τ 14 0 50 → d < deep → τ 80 0 a ≠ τ 81 0 d) ∧ (∀ d e : Nat, d < e → e < deep → τ 81 0 d ≠ τ 81 0 e)
def DI (V : Vy) (τ : St) (deep : Nat) : Prop := 0 ≤ τ 14 0 50 ∧ (∀ a : Nat, (a : Int) < τ 14 0 50 → isSt V (τ 80 0 a) ∧ mk τ (τ 80 0 a)) ∧ (∀ d : Nat, d < deep → isSt V (τ 81 0 d) ∧ mk τ (τ 81 0 d) ∧ 0 ≤ τ 82 0 d ∧ τ 82 0 d ≤ pe V * ha V) ∧ (∀ s, isSt V s → mk τ s → (∃ a : Nat, (a : Int) < τ 14 0 50 ∧ τ 80 0 a = s) ∨ ∃ d : Nat, d < deep ∧ τ 81 0 d = s) ∧ (∀ d : Nat, d + 1 < deep → E V (τ 81 0 d) (τ 81 0 (d + 1))) ∧ (∀ d : Nat, d < deep → ∀ k : Nat, (k : Int) < τ 82 0 d → stV V (τ 81 0 d) k ≠ -1 → efree V (τ 81 0 d) k → mk τ (stV V (τ 81 0 d) k)) ∧ D7 V τ ∧ τ 14 0 50 + deep = (cnt (fun k => isSt V (k : Int) ∧ τ 89 0 k ≠ 0) 1024 : Nat) ∧ D10 τ deep
theorem DI.ch {τ : St} {deep : Nat} (h : DI V τ deep) : ∀ n d : Nat, d + n < deep → Rch V (τ 81 0 d) (τ 81 0 (d + n)) := by
  intro n
  induction n with
  | zero => intro d _; exact Rch.rf
  | succ n ih => intro d hd; exact (ih d (by omega)).tr (Rch.one (h.2.2.2.2.1 (d + n) (by omega)))
theorem mcnt_lt (hV : VOK V) {τ : St} (hs : isSt V s) (h : ¬ mk τ s) : cnt (fun k => isSt V (k : Int) ∧ τ 89 0 k ≠ 0) 1024 < 1024 := by
  have hb := st_bd hV hs
  have := cnt_lt (P := fun k => isSt V (k : Int) ∧ τ 89 0 k ≠ 0) (Q := fun _ => True) (m := s.toNat) (n := 1024) (by omega) (fun _ _ _ => trivial) trivial (fun z => h z.2)
  have := cnt_bd (fun _ => True) 1024
  omega
theorem d_deepen (hV : VOK V) (hT : MT σ V) (hR : MRP σ V) (hs : isSt V s) (hI : DI V σ 0) (hm : ¬ mk σ s) (h : ∀ τ, FR oP σ τ → DI V τ 0 → mk τ s → (∀ x, mk σ x → mk τ x) → Q (.inl none) τ) : WP mX13_deepen 0 [vR 14 0, vI s, vU, vU, vU, vU] [] σ Q := by
  have hsb := st_bd hV hs
  have hph := ph_bd hV
  have hha := hV.ha
  have hpe := hV.pe
  refine b_X13_deepen_0 ⟨⟨by omega, by omega⟩, ?_⟩
  have key : ∀ (N : Nat) (τ : St) (deep : Nat), 42 * (1024 - (τ 14 0 50 + deep)) + sm (fun d => 41 - τ 82 0 d) deep < N → FR oP σ τ → DI V τ deep → mk τ s → (∀ x, mk σ x → mk τ x) → WP mX13_deepen 23 [vR 14 0, vU, vI (deep : Int), vU, vU, vU] [] τ Q := by
    intro N
    induction N with
    | zero =>
      intro τ deep hN hF hI hs' hmo
      obtain ⟨i1, i2, i3, i4, i5, i6, i7, i8, i9⟩ := hI
      have := cnt_bd (fun k => isSt V (k : Int) ∧ τ 89 0 k ≠ 0) 1024
      have := sm_nn (f := fun d => 41 - τ 82 0 d) (n := deep) (fun d hd => by have := (i3 d hd).2.2; show 0 ≤ 41 - τ 82 0 d; omega)
      omega
    | succ N ih =>
      intro τ deep hN hF hI hs' hmo
      have hI0 := hI
      obtain ⟨i1, i2, i3, i4, i5, i6, i7, i8, i9⟩ := hI
      have hT' : MT τ V := hT.fr hF (fun c j hc z => by unfold oP at z; omega)
      have hR' : MRP τ V := hR.fr hF (fun c j hc z => by unfold oP at z; omega)
      have hcb := cnt_bd (fun k => isSt V (k : Int) ∧ τ 89 0 k ≠ 0) 1024
      by_cases hd0 : deep = 0
      · subst hd0
        exact b_X13_deepen_23 ⟨fun _ => h τ hF hI0 hs' hmo, fun z => by omega⟩
      · obtain ⟨dt, rfl⟩ : ∃ d, deep = d + 1 := ⟨deep - 1, by omega⟩
        obtain ⟨t1, t2, t3, t4⟩ := i3 dt (by omega)
        have ttb := st_bd hV t1
        have hx1 : ((dt + 1 : Nat) : Int) - 1 = (dt : Int) := by omega
        have hsm : sm (fun d => 41 - τ 82 0 d) (dt + 1) = sm (fun d => 41 - τ 82 0 d) dt + (41 - τ 82 0 dt) := rfl
        refine b_X13_deepen_23 ?_
        rw [hx1, Int.toNat_natCast, hT'.pe, hT'.ha]
        refine ⟨fun z => by omega, fun _ => ⟨by unfold in32; omega, ⟨by omega, by omega⟩, by unfold in32; omega, ⟨by omega, by omega⟩, by unfold in32; omega, fun hne => ?_, fun he => ⟨⟨by omega, by omega⟩, by unfold in32; omega, by unfold in32; omega, ?_⟩⟩⟩
        · -- the next MOVE of the top
          have k0 : (0 : Int) ≤ τ 82 0 dt := t3
          have k1 : τ 82 0 dt < pe V * ha V := by omega
          have hkb := kk_bd hV k0 k1
          have hF1 : FR oP σ (up τ 82 0 dt (τ 82 0 dt + 1)) := hF.u ⟨rfl, by omega⟩
          have hT1 : MT (up τ 82 0 dt (τ 82 0 dt + 1)) V := hT.fr hF1 (fun c j hc z => by unfold oP at z; omega)
          have hsd := stp_sides hV hT1 t1 k0 k1
          rw [hT1.ha, up_c (show (77 : Nat) ≠ 82 by omega)] at hsd
          rw [stp_eq hV hT1 k0 k1]
          have hfi := free_iff hV hR' t1 k0 k1
          have s82 : ∀ d, (up τ 82 0 dt (τ 82 0 dt + 1)) 82 0 d = if d = dt then τ 82 0 dt + 1 else τ 82 0 d := fun d => by
            by_cases e : d = dt
            · rw [if_pos e, e, up_s]
            · rw [if_neg e, up_j e]
          have smu : sm (fun d => 41 - (up τ 82 0 dt (τ 82 0 dt + 1)) 82 0 d) (dt + 1) = sm (fun d => 41 - τ 82 0 d) (dt + 1) - 1 := by
            rw [sm, hsm, sm_congr (g := fun d => 41 - τ 82 0 d) (fun d hd => by rw [s82, if_neg (by omega)]), s82, if_pos rfl]
            omega
          have oth : ∀ c x, c ≠ 82 → (up τ 82 0 dt (τ 82 0 dt + 1)) c 0 x = τ c 0 x := fun c x hc => up_c hc
          -- nothing new
          have same : (stV V (τ 81 0 dt) (τ 82 0 dt) ≠ -1 → efree V (τ 81 0 dt) (τ 82 0 dt) → mk τ (stV V (τ 81 0 dt) (τ 82 0 dt))) → WP mX13_deepen 23 [vR 14 0, vU, vI ((dt + 1 : Nat) : Int), vU, vU, vU] [] (up τ 82 0 dt (τ 82 0 dt + 1)) Q := by
            intro hq
            have emk : ∀ x, mk (up τ 82 0 dt (τ 82 0 dt + 1)) x ↔ mk τ x := fun x => by unfold mk; rw [oth 89 _ (by omega)]
            refine ih _ (dt + 1) (by rw [smu, oth 14 50 (by omega)]; omega) hF1 ⟨by rw [oth 14 50 (by omega)]; exact i1, fun a ha => ?_, fun d hd => ?_, fun x hx hxm => ?_, fun d hd => ?_, fun d hd k hk z1 z2 => ?_, ?_, ?_, ?_⟩ ((emk s).mpr hs') (fun x hx => (emk x).mpr (hmo x hx))
            · rw [oth 14 50 (by omega)] at ha; rw [oth 80 _ (by omega), emk]; exact i2 a ha
            · rw [oth 81 _ (by omega), emk, s82]
              obtain ⟨j1, j2, j3, j4⟩ := i3 d hd
              refine ⟨j1, j2, ?_, ?_⟩ <;> (split <;> omega)
            · rw [oth 14 50 (by omega)]
              rcases i4 x hx ((emk x).mp hxm) with ⟨a, a1, a2⟩ | ⟨d, d1, d2⟩
              · exact Or.inl ⟨a, a1, by rw [oth 80 _ (by omega)]; exact a2⟩
              · exact Or.inr ⟨d, d1, by rw [oth 81 _ (by omega)]; exact d2⟩
            · rw [oth 81 _ (by omega), oth 81 _ (by omega)]; exact i5 d hd
            · rw [oth 81 _ (by omega)] at z1 z2 ⊢
              rw [emk]
              rw [s82] at hk
              by_cases e : d = dt
              · rw [if_pos e] at hk
                by_cases e2 : (k : Int) = τ 82 0 dt
                · rw [e, e2] at z1 z2 ⊢; exact hq z1 z2
                · rw [e] at z1 z2 ⊢; exact i6 dt (by omega) k (by omega) z1 z2
              · rw [if_neg e] at hk; exact i6 d hd k hk z1 z2
            · intro a ha v hv
              rw [oth 14 50 (by omega)] at ha
              rw [oth 80 _ (by omega)] at hv
              obtain ⟨q1, q2⟩ := i7 a ha v hv
              refine ⟨(emk v).mpr q1, ?_⟩
              rw [oth 14 50 (by omega)]
              simp only [oth 80 _ (show (80 : Nat) ≠ 82 by omega)]
              exact q2
            · rw [oth 14 50 (by omega), i8]
              rw [cnt_eq (P := fun k => isSt V (k : Int) ∧ τ 89 0 k ≠ 0) (Q := fun k => isSt V (k : Int) ∧ (up τ 82 0 dt (τ 82 0 dt + 1)) 89 0 k ≠ 0) (fun k _ => by rw [oth 89 _ (by omega)])]
            · obtain ⟨w1, w2, w3⟩ := i9
              unfold D10
              rw [oth 14 50 (by omega)]
              simp only [oth 80 _ (show (80 : Nat) ≠ 82 by omega), oth 81 _ (show (81 : Nat) ≠ 82 by omega)]
              exact ⟨w1, w2, w3⟩
          refine ⟨by unfold in32; omega, ⟨by omega, by omega⟩, by unfold in32; omega, ⟨by omega, by omega⟩, hsd, fun hc => same (fun z => absurd hc z), fun hc => ⟨⟨by omega, by omega, by omega, by omega, by omega, by omega, by omega, by omega⟩, fun hnf => same (fun _ z => absurd (hfi.mpr z) hnf), fun hf => ?_⟩⟩
          have hE := k_e hV k0 k1 hc (hfi.mp hf)
          have hto := hE.st hV t1
          have htob := st_bd hV hto
          refine ⟨⟨by omega, by omega⟩, fun hun => ?_, fun hmk => same (fun _ _ => hmk)⟩
          have hnm : ¬ mk τ (stV V (τ 81 0 dt) (τ 82 0 dt)) := fun z => z hun
          have hlt := mcnt_lt hV hto hnm
          generalize hto' : stV V (τ 81 0 dt) (τ 82 0 dt) = to at *
          refine ⟨⟨by omega, by omega⟩, ⟨by omega, by omega⟩, ⟨by omega, by omega⟩, by unfold in32; omega, ?_⟩
          have cdt : (((dt + 1 : Nat) : Int)).toNat = dt + 1 := by omega
          rw [cdt]
          have c80 : ∀ x, (up (up (up (up τ 82 0 dt (τ 82 0 dt + 1)) 89 0 to.toNat 1) 81 0 (dt + 1) to) 82 0 (dt + 1) 0) 80 0 x = τ 80 0 x := fun x => by rw [up_c (by omega), up_c (by omega), up_c (by omega), up_c (by omega)]
          have c14 : (up (up (up (up τ 82 0 dt (τ 82 0 dt + 1)) 89 0 to.toNat 1) 81 0 (dt + 1) to) 82 0 (dt + 1) 0) 14 0 50 = τ 14 0 50 := by rw [up_c (by omega), up_c (by omega), up_c (by omega), up_c (by omega)]
          have c81 : ∀ x, (up (up (up (up τ 82 0 dt (τ 82 0 dt + 1)) 89 0 to.toNat 1) 81 0 (dt + 1) to) 82 0 (dt + 1) 0) 81 0 x = if x = dt + 1 then to else τ 81 0 x := fun x => by
            rw [up_c (by omega)]
            by_cases e : x = dt + 1
            · rw [if_pos e, e, up_s]
            · rw [if_neg e, up_j e, up_c (by omega), up_c (by omega)]
          have c82 : ∀ x, (up (up (up (up τ 82 0 dt (τ 82 0 dt + 1)) 89 0 to.toNat 1) 81 0 (dt + 1) to) 82 0 (dt + 1) 0) 82 0 x = if x = dt + 1 then 0 else if x = dt then τ 82 0 dt + 1 else τ 82 0 x := fun x => by
            by_cases e : x = dt + 1
            · rw [if_pos e, e, up_s]
            · rw [if_neg e, up_j e, up_c (by omega), up_c (by omega), s82]
          have c89 : ∀ x, (up (up (up (up τ 82 0 dt (τ 82 0 dt + 1)) 89 0 to.toNat 1) 81 0 (dt + 1) to) 82 0 (dt + 1) 0) 89 0 x = if x = to.toNat then 1 else τ 89 0 x := fun x => by
            rw [up_c (by omega), up_c (by omega)]
            by_cases e : x = to.toNat
            · rw [if_pos e, e, up_s]
            · rw [if_neg e, up_j e, up_c (by omega)]
          have hFn : FR oP σ (up (up (up (up τ 82 0 dt (τ 82 0 dt + 1)) 89 0 to.toNat 1) 81 0 (dt + 1) to) 82 0 (dt + 1) 0) := ((hF1.u ⟨rfl, by omega⟩).u ⟨rfl, by omega⟩).u ⟨rfl, by omega⟩
          generalize up (up (up (up τ 82 0 dt (τ 82 0 dt + 1)) 89 0 to.toNat 1) 81 0 (dt + 1) to) 82 0 (dt + 1) 0 = υ at *
          have emk : ∀ x, 0 ≤ x → (mk υ x ↔ mk τ x ∨ x = to) := fun x hx => by
            unfold mk
            rw [c89]
            by_cases e : x.toNat = to.toNat
            · rw [if_pos e]; exact ⟨fun _ => Or.inr (by omega), fun _ => by omega⟩
            · rw [if_neg e]; exact ⟨Or.inl, fun z => z.elim id (fun z => absurd (by rw [z]) e)⟩
          have emk2 : ∀ x, mk τ x → mk υ x := fun x hx => by
            unfold mk
            rw [c89]
            split
            · omega
            · exact hx
          have smp : sm (fun d => 41 - υ 82 0 d) (dt + 1 + 1) = sm (fun d => 41 - τ 82 0 d) dt + (41 - (τ 82 0 dt + 1)) + 41 := by
            rw [sm, sm, sm_congr (g := fun d => 41 - τ 82 0 d) (fun d hd => by rw [c82, if_neg (by omega), if_neg (by omega)]), c82, c82, if_neg (by omega), if_pos rfl, if_pos rfl]
            omega
          refine ih υ (dt + 1 + 1) (by rw [smp, c14]; push_cast; omega) hFn ⟨by rw [c14]; exact i1, fun a ha => ?_, fun d hd => ?_, fun x hx hxm => ?_, fun d hd => ?_, fun d hd k hk z1 z2 => ?_, ?_, ?_, ?_⟩ (emk2 s hs') (fun x hx => emk2 x (hmo x hx))
          · rw [c14] at ha; rw [c80]; exact ⟨(i2 a ha).1, emk2 _ (i2 a ha).2⟩
          · rw [c81, c82]
            by_cases e : d = dt + 1
            · rw [if_pos e, if_pos e]; exact ⟨hto, (emk to htob.1).mpr (Or.inr rfl), by omega, by omega⟩
            · rw [if_neg e, if_neg e]
              obtain ⟨j1, j2, j3, j4⟩ := i3 d (by omega)
              refine ⟨j1, emk2 _ j2, ?_, ?_⟩ <;> (split <;> omega)
          · rw [c14]
            rcases (emk x hx.1.1).mp hxm with z | z
            · rcases i4 x hx z with ⟨a, a1, a2⟩ | ⟨d, d1, d2⟩
              · exact Or.inl ⟨a, a1, by rw [c80]; exact a2⟩
              · exact Or.inr ⟨d, by omega, by rw [c81, if_neg (by omega)]; exact d2⟩
            · exact Or.inr ⟨dt + 1, by omega, by rw [c81, if_pos rfl, z]⟩
          · rw [c81, c81]
            by_cases e : d = dt
            · rw [if_neg (by omega), if_pos (by omega), e]; exact hE
            · rw [if_neg (by omega), if_neg (by omega)]; exact i5 d (by omega)
          · rw [c81] at z1 z2 ⊢
            rw [c82] at hk
            by_cases e : d = dt + 1
            · rw [if_pos e] at hk; omega
            · rw [if_neg e] at hk z1 z2 ⊢
              by_cases e1 : d = dt
              · rw [if_pos e1] at hk
                rw [e1] at z1 z2 ⊢
                by_cases e2 : (k : Int) = τ 82 0 dt
                · rw [e2, hto']; exact (emk to htob.1).mpr (Or.inr rfl)
                · exact emk2 _ (i6 dt (by omega) k (by omega) z1 z2)
              · rw [if_neg e1] at hk; exact emk2 _ (i6 d (by omega) k hk z1 z2)
          · intro a ha v hv
            rw [c14] at ha
            rw [c80] at hv
            obtain ⟨q1, q2⟩ := i7 a ha v hv
            refine ⟨emk2 v q1, ?_⟩
            rw [c14]
            simp only [c80]
            exact q2
          · rw [c14]
            rw [cnt_add (P := fun k => isSt V (k : Int) ∧ τ 89 0 k ≠ 0) (Q := fun k => isSt V (k : Int) ∧ υ 89 0 k ≠ 0) (m := to.toNat) (n := 1024) (by omega) (fun k _ hk => by rw [c89, if_neg hk]) (by rw [c89, if_pos rfl, show ((to.toNat : Nat) : Int) = to by omega]; exact ⟨hto, by omega⟩) (fun z => hnm z.2)]
            push_cast
            omega
          · obtain ⟨w1, w2, w3⟩ := i9
            unfold D10
            rw [c14]
            simp only [c80, c81]
            refine ⟨w1, fun a d ha hd => ?_, fun d e hde he => ?_⟩
            · split
              · intro z; exact hnm (by rw [← z]; exact (i2 a ha).2)
              · exact w2 a d ha (by omega)
            · rw [if_neg (by omega)]
              split
              · intro z; exact hnm (by rw [← z]; exact (i3 d (by omega)).2.1)
              · exact w3 d e hde (by omega)
        · -- the top is done
          rw [show ((dt + 1 : Nat) : Int) + (-1) = ((dt : Nat) : Int) by omega]
          have c80 : ∀ x, (up (up τ 80 0 (τ 14 0 50).toNat (τ 81 0 dt)) 14 0 50 (τ 14 0 50 + 1)) 80 0 x = if x = (τ 14 0 50).toNat then τ 81 0 dt else τ 80 0 x := fun x => by
            rw [up_c (by omega)]
            by_cases e : x = (τ 14 0 50).toNat
            · rw [if_pos e, e, up_s]
            · rw [if_neg e, up_j e]
          have c14 : (up (up τ 80 0 (τ 14 0 50).toNat (τ 81 0 dt)) 14 0 50 (τ 14 0 50 + 1)) 14 0 50 = τ 14 0 50 + 1 := up_s _ _ _ _ _
          have cx : ∀ c x, c ≠ 80 → c ≠ 14 → (up (up τ 80 0 (τ 14 0 50).toNat (τ 81 0 dt)) 14 0 50 (τ 14 0 50 + 1)) c 0 x = τ c 0 x := fun c x h1 h2 => by rw [up_c h2, up_c h1]
          have hFn : FR oP σ (up (up τ 80 0 (τ 14 0 50).toNat (τ 81 0 dt)) 14 0 50 (τ 14 0 50 + 1)) := (hF.u ⟨rfl, by omega⟩).u ⟨rfl, by omega⟩
          generalize up (up τ 80 0 (τ 14 0 50).toNat (τ 81 0 dt)) 14 0 50 (τ 14 0 50 + 1) = υ at *
          have emk : ∀ x, mk υ x ↔ mk τ x := fun x => by unfold mk; rw [cx 89 _ (by omega) (by omega)]
          have smq : sm (fun d => 41 - υ 82 0 d) dt = sm (fun d => 41 - τ 82 0 d) dt := sm_congr (fun d _ => by rw [cx 82 _ (by omega) (by omega)])
          -- what is marked is in the order or below
          have fin : ∀ v, isSt V v → mk τ v → (∃ b : Nat, b ≤ (τ 14 0 50).toNat ∧ υ 80 0 b = v) ∨ Rch V v (τ 81 0 dt) := fun v hv hvm => by
            rcases i4 v hv hvm with ⟨a, a1, a2⟩ | ⟨d, d1, d2⟩
            · exact Or.inl ⟨a, by omega, by rw [c80, if_neg (by omega)]; exact a2⟩
            · right
              have := hI0.ch (dt - d) d (by omega)
              rw [show d + (dt - d) = dt by omega, d2] at this
              exact this
          refine ih υ dt (by rw [smq, c14]; push_cast at *; omega) hFn ⟨by rw [c14]; omega, fun a ha => ?_, fun d hd => ?_, fun x hx hxm => ?_, fun d hd => ?_, fun d hd k hk z1 z2 => ?_, ?_, ?_, ?_⟩ ((emk s).mpr hs') (fun x hx => (emk x).mpr (hmo x hx))
          · rw [c14] at ha
            rw [c80, emk]
            split
            · exact ⟨t1, t2⟩
            · exact i2 a (by omega)
          · rw [cx 81 _ (by omega) (by omega), cx 82 _ (by omega) (by omega), emk]; exact i3 d (by omega)
          · rw [c14]
            rcases i4 x hx ((emk x).mp hxm) with ⟨a, a1, a2⟩ | ⟨d, d1, d2⟩
            · exact Or.inl ⟨a, by omega, by rw [c80, if_neg (by omega)]; exact a2⟩
            · by_cases e : d = dt
              · exact Or.inl ⟨(τ 14 0 50).toNat, by omega, by rw [c80, if_pos rfl, ← e]; exact d2⟩
              · exact Or.inr ⟨d, by omega, by rw [cx 81 _ (by omega) (by omega)]; exact d2⟩
          · rw [cx 81 _ (by omega) (by omega), cx 81 _ (by omega) (by omega)]; exact i5 d (by omega)
          · rw [cx 81 _ (by omega) (by omega)] at z1 z2 ⊢
            rw [cx 82 _ (by omega) (by omega)] at hk
            rw [emk]
            exact i6 d (by omega) k hk z1 z2
          · intro a ha v hv
            rw [c14] at ha ⊢
            rw [c80] at hv
            by_cases e : a = (τ 14 0 50).toNat
            · rw [if_pos e] at hv
              have hvm : mk τ v := by
                by_cases ev : v = τ 81 0 dt
                · rw [ev]; exact t2
                · obtain ⟨k, k1, k2, k3⟩ := e_k hV t1 hv ev
                  have := i6 dt (by omega) k (by omega) (by rw [k2]; have := (st_bd hV (hv.st hV t1)).1; omega) k3
                  rw [k2] at this
                  exact this
              refine ⟨(emk v).mpr hvm, Or.inr (fun c hc1 hc2 => ?_)⟩
              have hcn : c = (τ 14 0 50).toNat := by omega
              rw [hcn, c80, if_pos rfl]
              exact fin v (hv.st hV t1) hvm
            · rw [if_neg e] at hv
              obtain ⟨q1, q2⟩ := i7 a (by omega) v hv
              refine ⟨(emk v).mpr q1, ?_⟩
              rcases q2 with ⟨b, b1, b2⟩ | q2
              · exact Or.inl ⟨b, b1, by rw [c80, if_neg (by omega)]; exact b2⟩
              · refine Or.inr (fun c hc1 hc2 => ?_)
                by_cases ec : c = (τ 14 0 50).toNat
                · rw [ec, c80, if_pos rfl]
                  exact fin v (hv.st hV (i2 a (by omega)).1) q1
                · rw [c80, if_neg ec]
                  rcases q2 c hc1 (by omega) with ⟨b, b1, b2⟩ | z
                  · exact Or.inl ⟨b, b1, by rw [c80, if_neg (by omega)]; exact b2⟩
                  · exact Or.inr z
          · rw [c14]
            rw [cnt_eq (P := fun k => isSt V (k : Int) ∧ υ 89 0 k ≠ 0) (Q := fun k => isSt V (k : Int) ∧ τ 89 0 k ≠ 0) (fun k _ => by rw [cx 89 _ (by omega) (by omega)])]
            push_cast at i8
            omega
          · obtain ⟨w1, w2, w3⟩ := i9
            unfold D10
            rw [c14]
            simp only [c80, cx 81 _ (show (81 : Nat) ≠ 80 by omega) (show (81 : Nat) ≠ 14 by omega)]
            refine ⟨fun a b hab hb => ?_, fun a d ha hd => ?_, fun d e hde he => w3 d e hde (by omega)⟩
            · rw [if_neg (by omega)]
              split
              · exact w2 a dt (by omega) (by omega)
              · exact w1 a b hab (by omega)
            · split
              · exact fun z => w3 d dt hd (by omega) z.symm
              · exact w2 a d (by omega) (by omega)
  -- the start
  obtain ⟨i1, i2, i3, i4, i5, i6, i7, i8, i9⟩ := hI
  have hlt := mcnt_lt hV hs hm
  have c80 : ∀ x, (up (up (up σ 81 0 0 s) 82 0 0 0) 89 0 s.toNat 1) 80 0 x = σ 80 0 x := fun x => by rw [up_c (by omega), up_c (by omega), up_c (by omega)]
  have c14 : (up (up (up σ 81 0 0 s) 82 0 0 0) 89 0 s.toNat 1) 14 0 50 = σ 14 0 50 := by rw [up_c (by omega), up_c (by omega), up_c (by omega)]
  have c81 : (up (up (up σ 81 0 0 s) 82 0 0 0) 89 0 s.toNat 1) 81 0 0 = s := by rw [up_c (by omega), up_c (by omega), up_s]
  have c82 : (up (up (up σ 81 0 0 s) 82 0 0 0) 89 0 s.toNat 1) 82 0 0 = 0 := by rw [up_c (by omega), up_s]
  have c89 : ∀ x, (up (up (up σ 81 0 0 s) 82 0 0 0) 89 0 s.toNat 1) 89 0 x = if x = s.toNat then 1 else σ 89 0 x := fun x => by
    by_cases e : x = s.toNat
    · rw [if_pos e, e, up_s]
    · rw [if_neg e, up_j e, up_c (by omega), up_c (by omega)]
  have hFn : FR oP σ (up (up (up σ 81 0 0 s) 82 0 0 0) 89 0 s.toNat 1) := ((FR.rf.u ⟨rfl, by omega⟩).u ⟨rfl, by omega⟩).u ⟨rfl, by omega⟩
  generalize up (up (up σ 81 0 0 s) 82 0 0 0) 89 0 s.toNat 1 = υ at *
  have emk2 : ∀ x, mk σ x → mk υ x := fun x hx => by
    unfold mk
    rw [c89]
    split
    · omega
    · exact hx
  have ems : mk υ s := by unfold mk; rw [c89, if_pos rfl]; omega
  have := key ((42 * (1024 - (υ 14 0 50 + ((1 : Nat) : Int))) + sm (fun d => 41 - υ 82 0 d) 1).toNat + 1) υ 1 (by omega) hFn ⟨by rw [c14]; exact i1, fun a ha => ?_, fun d hd => ?_, fun x hx hxm => ?_, fun d hd => by omega, fun d hd k hk => ?_, ?_, ?_, ?_⟩ ems emk2
  · exact this
  · rw [c14] at ha; rw [c80]; exact ⟨(i2 a ha).1, emk2 _ (i2 a ha).2⟩
  · rw [show d = 0 by omega, c81, c82]; exact ⟨hs, ems, by omega, by omega⟩
  · by_cases e : x = s
    · exact Or.inr ⟨0, by omega, by rw [c81, e]⟩
    · have hxs : mk σ x := by
        unfold mk at hxm ⊢
        rw [c89, if_neg (by have := hx.1.1; omega)] at hxm
        exact hxm
      rcases i4 x hx hxs with ⟨a, a1, a2⟩ | ⟨d, d1, -⟩
      · exact Or.inl ⟨a, by rw [c14]; exact a1, by rw [c80]; exact a2⟩
      · omega
  · rw [show d = 0 by omega, c82] at hk; omega
  · intro a ha v hv
    rw [c14] at ha
    rw [c80] at hv
    obtain ⟨q1, q2⟩ := i7 a ha v hv
    refine ⟨emk2 v q1, ?_⟩
    rw [c14]
    simp only [c80]
    exact q2
  · rw [c14]
    rw [cnt_add (P := fun k => isSt V (k : Int) ∧ σ 89 0 k ≠ 0) (Q := fun k => isSt V (k : Int) ∧ υ 89 0 k ≠ 0) (m := s.toNat) (n := 1024) (by omega) (fun k _ hk => by rw [c89, if_neg hk]) (by rw [c89, if_pos rfl, show ((s.toNat : Nat) : Int) = s by omega]; exact ⟨hs, by omega⟩) (fun z => hm z.2)]
    push_cast
    omega
  · obtain ⟨w1, w2, w3⟩ := i9
    unfold D10
    rw [c14]
    simp only [c80]
    refine ⟨w1, fun a d ha hd z => ?_, fun d e hde he => by omega⟩
    rw [show d = 0 by omega, c81] at z
    exact hm (by rw [← z]; exact (i2 a ha).2)
/-- the order of findOrder -/
def ORD (V : Vy) (τ : St) : Prop := 0 ≤ τ 14 0 50 ∧ τ 14 0 50 ≤ 1024 ∧ (∀ a : Nat, (a : Int) < τ 14 0 50 → isSt V (τ 80 0 a)) ∧ (∀ s, isSt V s → ∃ a : Nat, (a : Int) < τ 14 0 50 ∧ τ 80 0 a = s) ∧ (∀ a b : Nat, a < b → (b : Int) < τ 14 0 50 → τ 80 0 a ≠ τ 80 0 b) ∧ (∀ a : Nat, (a : Int) < τ 14 0 50 → ∀ v, E V (τ 80 0 a) v → (∃ b : Nat, b < a ∧ τ 80 0 b = v) ∨ ∀ c : Nat, a ≤ c → (c : Int) < τ 14 0 50 → (∃ b : Nat, b ≤ c ∧ τ 80 0 b = v) ∨ Rch V v (τ 80 0 c))
theorem d_findOrder (hV : VOK V) (hT : MT σ V) (hR : MRP σ V) (h : ∀ τ, FR oP σ τ → ORD V τ → Q (.inl none) τ) : WP mX13_findOrder 0 [vR 14 0, vU] [] σ Q := by
  have hpe := hV.pe
  have hc := hV.cod
  have hc0 := cod_pos hV
  have hTf : ∀ τ, FR oP σ τ → MT τ V := fun τ hF => hT.fr hF (fun c j hc z => by unfold oP at z; omega)
  have hRf : ∀ τ, FR oP σ τ → MRP τ V := fun τ hF => hR.fr hF (fun c j hc z => by unfold oP at z; omega)
  refine b_X13_findOrder_0 ?_
  have key2 : ∀ n x : Nat, ((n + x : Nat) : Int) = cod V → ∀ τ, FR oP σ τ → DI V τ 0 → (∀ y : Nat, y < x → isSt V (y : Int) → mk τ (y : Int)) → WP mX13_findOrder 30 [vR 14 0, vI (x : Int)] [] τ Q := by
    intro n
    induction n with
    | zero =>
      intro x hx τ hF hI hy
      refine b_X13_findOrder_30 ?_
      rw [(hTf τ hF).all hV, (hTf τ hF).pe]
      refine ⟨⟨by omega, by omega⟩, fun _ => h τ hF ?_, fun z => by omega⟩
      obtain ⟨i1, i2, i3, i4, i5, i6, i7, i8, i9⟩ := hI
      have hcb := cnt_bd (fun k => isSt V (k : Int) ∧ τ 89 0 k ≠ 0) 1024
      refine ⟨i1, by omega, fun a ha => (i2 a ha).1, fun s hs => ?_, i9.1, fun a ha v hv => (i7 a ha v hv).2⟩
      have hsb := hs.1
      unfold inC at hsb
      have := hy s.toNat (by omega) (by rw [show ((s.toNat : Nat) : Int) = s by omega]; exact hs)
      rw [show ((s.toNat : Nat) : Int) = s by omega] at this
      rcases i4 s hs this with z | ⟨d, d1, -⟩
      · exact z
      · omega
    | succ n ih =>
      intro x hx τ hF hI hy
      refine b_X13_findOrder_30 ?_
      rw [(hTf τ hF).all hV, (hTf τ hF).pe, Int.toNat_natCast, (hRf τ hF).1 x (by omega)]
      have go : ∀ υ, FR oP σ υ → DI V υ 0 → (∀ y : Nat, y < x + 1 → isSt V (y : Int) → mk υ (y : Int)) → WP mX13_findOrder 61 [vR 14 0, vI (x : Int)] [] υ Q := fun υ u1 u2 u3 => b_X13_findOrder_61 ⟨by unfold in32; omega, ih (x + 1) (by omega) υ u1 u2 u3⟩
      refine ⟨⟨by omega, by omega⟩, fun z => by omega, fun _ => ⟨⟨by omega, by omega⟩, fun hb => go τ hF hI (fun y h1 h2 => ?_), fun hb => ⟨⟨by omega, by omega⟩, fun hm => go τ hF hI (fun y h1 h2 => ?_), fun hm => d_deepen hV (hTf τ hF) (hRf τ hF) (b2_ne hb) hI (fun z => z hm) (fun υ u1 u2 u3 u4 => go υ (hF.tr u1) u2 (fun y h1 h2 => ?_))⟩⟩⟩
      · by_cases e : y = x
        · rw [e] at h2; exact absurd h2 (b2_eq hb)
        · exact hy y (by omega) h2
      · by_cases e : y = x
        · rw [e]; exact hm
        · exact hy y (by omega) h2
      · by_cases e : y = x
        · rw [e]; exact u3
        · exact u4 _ (hy y (by omega) h2)
  have key1 : ∀ n x : Nat, ((n + x : Nat) : Int) = cod V → ∀ τ, FR oP σ τ → τ 14 0 50 = 0 → (∀ y : Nat, y < x → τ 89 0 y = 0) → WP mX13_findOrder 7 [vR 14 0, vI (x : Int)] [] τ Q := by
    intro n
    induction n with
    | zero =>
      intro x hx τ hF h0 hy
      refine b_X13_findOrder_7 ?_
      rw [(hTf τ hF).all hV, (hTf τ hF).pe]
      refine ⟨⟨by omega, by omega⟩, fun _ => ?_, fun z => by omega⟩
      have hno : ∀ s, isSt V s → ¬ mk τ s := fun s hs z => z (hy s.toNat (by have := hs.1; unfold inC at this; omega))
      refine key2 (cod V).toNat 0 (by omega) τ hF ⟨by omega, fun a ha => by omega, fun d hd => by omega, fun s hs hm => absurd hm (hno s hs), fun d hd => by omega, fun d hd => by omega, fun a ha => by omega, ?_, ⟨fun a b _ hb => by omega, fun a d ha => by omega, fun d e _ he => by omega⟩⟩ (fun y hy' => by omega)
      rw [h0, cnt_0 (fun k _ z => by
        have := hno k z.1
        exact this z.2)]
      rfl
    | succ n ih =>
      intro x hx τ hF h0 hy
      refine b_X13_findOrder_7 ?_
      rw [(hTf τ hF).all hV, (hTf τ hF).pe, Int.toNat_natCast]
      refine ⟨⟨by omega, by omega⟩, fun z => by omega, fun _ => ⟨⟨by omega, by omega⟩, by unfold in32; omega, ih (x + 1) (by omega) _ (hF.u ⟨rfl, by omega⟩) (by rw [up_c (by omega)]; exact h0) (fun y hy' => ?_)⟩⟩
      by_cases e : y = x
      · rw [e, up_s]
      · rw [up_j e]; exact hy y (by omega)
  exact key1 (cod V).toNat 0 (by omega) _ (FR.rf.u ⟨rfl, by omega⟩) (by rw [up_s]) (fun y hy => by omega)
end Dfs
