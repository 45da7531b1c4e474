/-! ===== RADIUS, CORADIUS: the class' leave, the model's radiusOf, leastOf, coradiusOf ===== -/
def MXC (V : Vy) (F : Int → Int) (m : Int) : Prop := (∀ s, isSt V s → F s / 4096 ≤ m) ∧ ∃ s, isSt V s ∧ F s / 4096 = m
section Radius
variable {i j : Nat} {σ : St} {Q : Res → St → Prop} {V : Vy} {s t : Int} {F : Int → Int} {Tg : Int → Prop}
theorem MXC.un {F G : Int → Int} {m n : Int} (hFG : ∀ s, isSt V s → F s = G s) (h : MXC V F m) (h' : MXC V G n) : m = n := by
  obtain ⟨a1, s, s1, s2⟩ := h
  obtain ⟨b1, t, t1, t2⟩ := h'
  have := a1 t t1
  have := b1 s s1
  rw [hFG t t1] at *
  rw [hFG s s1] at *
  omega
theorem DIST.rch (hV : VOK V) (hD : DIST V Tg F) {s u : Int} (hs : isSt V s) (h : Rch V s u) : F s / 4096 ≤ F u / 4096 := by
  have : isSt V u ∧ F s / 4096 ≤ F u / 4096 := h (fun x => isSt V x ∧ F s / 4096 ≤ F x / 4096) ⟨hs, Int.le_refl _⟩ (fun a b ha he => by
    have := hD.cle hV ha.1 (Mv.of_E he)
    exact ⟨he.st hV ha.1, by omega⟩)
  exact this.2
/-- all of one REST are equally far -/
theorem HOME.far (hV : VOK V) {home : Int → Int} {n : Int} (hH : HOME V home n) (hD : DIST V Tg F) {k a b : Int} (hk : 0 ≤ k) (ha : isSt V a) (hb : isSt V b) (h1 : home a = k) (h2 : home b = k) : F a / 4096 = F b / 4096 := by
  have ra : Rst V a := ((hH.1 a ha).resolve_left (fun z => by omega)).2.2
  have rb : Rst V b := ((hH.1 b hb).resolve_left (fun z => by omega)).2.2
  have := hD.rch hV ha ((hH.2.1 a b ra rb).mp (by omega))
  have := hD.rch hV hb ((hH.2.1 b a rb ra).mp (by omega))
  omega
theorem c_leave {k : Int} (hV : VOK V) (hA : VA σ j V) (hR : REP σ j V) (hS : RS σ j V) (h0 : 0 ≤ k) (h1 : k < σ 5 j 0) (h : ∀ τ r, FR (sP i) σ τ → RAD V (fun u => isSt V u ∧ hm σ j u = k) (BAS V (hm σ j) k) r → Q (.inl (some (vI r))) τ) : WP mX5_leave 0 [vR 6 i, vR 2 j, vI k, vU, vU] [] σ Q := by
  have hcb := hV.cod
  have hn := hS.2.1
  have hL := hA.2.2.2.1
  have eB := hS.2.2.2.2 k.toNat (by omega)
  have hkk : ((k.toNat : Nat) : Int) = k := by omega
  have eN : σ 10 j 12 = (cnt (fun s => isSt V (s : Int)) 1024 : Nat) := by
    rw [hL.2.2.2.2, cnt_ext (P := fun s => isSt V (s : Int)) (n := (cod V).toNat) (m := 1024) (by omega) (fun x hx _ z => by have := z.1.2; omega)]
  refine b_X5_leave_0 ⟨⟨by omega, by omega⟩, fun hne => ?_, fun heq => ?_⟩
  · -- not all are of the BASIN
    have hex : ∃ u, isSt V u ∧ ¬ BAS V (hm σ j) k u := by
      apply Classical.byContradiction
      intro hno
      apply hne
      rw [eB, eN, cnt_eq (P := fun s => isSt V (s : Int) ∧ σ 28 j s = k.toNat) (Q := fun s => isSt V (s : Int)) (fun x _ => ⟨fun z => z.1, fun z => ⟨z, ?_⟩⟩)]
      have := (hS.2.2.1 (x : Int) z k h0).mpr (Classical.byContradiction (fun w => hno ⟨x, z, w⟩))
      rw [Int.toNat_natCast] at this
      omega
    obtain ⟨u0, u1, u2⟩ := hex
    obtain ⟨s0, s1, s2⟩ := hS.1.2.2.2.1 k h0 h1
    obtain ⟨F, hD⟩ := dist_ex hV (Tg := fun x => x = u0) u1 rfl
    have hpc : ∃ c, c ≤ 30 ∧ PC V (fun u => isSt V u ∧ hm σ j u = k) u0 c := by
      obtain ⟨w, w1, w2, w3⟩ := PC.dist (T := fun u => isSt V u ∧ hm σ j u = k) hV hD ((F s0).toNat + 1) s0 0 s1.1 (by have := (hD s0 s1.1).1; omega) (PC.z ⟨s1.1, s2⟩)
      rw [w2] at w3
      exact ⟨_, by have := hD.le hV u1 rfl s0 s1.1; omega, w3⟩
    obtain ⟨c0, c1, c2⟩ := hpc
    have hTs : ∀ s, (isSt V s ∧ hm σ j s = k) → isSt V s := fun s hs => hs.1
    have hBE : ∀ a b, BAS V (hm σ j) k a → E V a b → BAS V (hm σ j) k b := fun a b ha he => ha.cl (Rch.one he)
    have key : ∀ (m : Nat) (L : Int) (τ : St), L + m = 31 → 0 ≤ L → FR (sP i) σ τ → FS V (fun u => isSt V u ∧ hm σ j u = k) (BAS V (hm σ j) k) L (Kf τ i) → WP mX5_leave 29 [vR 6 i, vR 2 j, vI k, vI L, vU] [] τ Q := by
      intro m
      induction m with
      | zero =>
        intro L τ hLm hL0 t1 t2
        exfalso
        have := t2.pc hV hTs c2
        exact u2 (t2.2.2.2 u0 u1 (by omega))
      | succ m ih =>
        intro L τ hLm hL0 t1 t2
        have hA' : VA τ j V := hA.fr t1 (fun c k hc z => by unfold sP at z; omega)
        refine b_X5_leave_29 ⟨fun z => by omega, fun _ => c_collect hV hA' (fun υ w1 w2 w3 w4 w5 => ?_)⟩
        have eK : Kf υ i = Kf τ i := funext w2
        have t2' : FS V (fun u => isSt V u ∧ hm σ j u = k) (BAS V (hm σ j) k) L (Kf υ i) := by rw [eK]; exact t2
        have F1 : FR (sP i) σ υ := t1.tr w1
        have hA2 : VA υ j V := hA.fr F1 (fun c k hc z => by unfold sP at z; omega)
        have hR2 : REP υ j V := hR.fr F1 (fun k z => by unfold sP at z; omega)
        have hnb := nL_bd V L (Kf τ i)
        show WP mX5_leave 41 [vR 6 i, vR 2 j, vI k, vI L, vU] [] υ Q
        refine b_X5_leave_41 ?_
        have e28 : ∀ x, υ 28 j x = σ 28 j x := fun x => F1 28 j x (fun z => by unfold sP at z; omega)
        have chk : ∀ n a : Nat, ((n + a : Nat) : Int) = υ 6 i 3 → (∀ b : Nat, b < a → BAS V (hm σ j) k (υ 39 i b)) → WP mX5_leave 44 [vR 6 i, vR 2 j, vI k, vI L, vI (a : Int)] [] υ Q := by
          intro n
          induction n with
          | zero =>
            intro a ha hb
            refine b_X5_leave_44 ⟨fun _ => ?_, fun z => by omega⟩
            refine c_settleForth (T := fun u => isSt V u ∧ hm σ j u = k) (B := BAS V (hm σ j) k) hV hA2 hR2 hBE hL0 (by omega) t2' (fun u hu hk => ?_) hTs ⟨fun b hb' => ?_, fun u hu hk => ?_, by omega, by omega, by rw [eK]; omega⟩ (fun ω o1 o2 => ?_)
            · rw [eK] at hk
              obtain ⟨b, b1, b2⟩ := w4 u hu hk
              rw [← b2]; exact hb b (by omega)
            · rw [eK]; exact w3 b hb'
            · rw [eK] at hk
              exact Or.inr (Or.inr (w4 u hu hk))
            · show WP mX5_leave 86 [vR 6 i, vR 2 j, vI k, vI L, vU] [] ω Q
              exact b_X5_leave_86 ⟨by unfold in32; omega, ih (L + 1) ω (by omega) (by omega) (F1.tr o1) o2⟩
          | succ n ihn =>
            intro a ha hb
            have hq := w3 a (by omega)
            have hqb := st_bd hV hq.1
            have hS2 := hS.2.2.1 _ hq.1 k h0
            refine b_X5_leave_44 ?_
            simp only [Int.toNat_natCast]
            rw [e28]
            refine ⟨fun z => by omega, fun _ => ⟨⟨by omega, by omega⟩, ⟨by omega, by omega⟩, fun he => ⟨by unfold in32; omega, ihn (a + 1) (by omega) (fun b hb' => ?_)⟩, fun hne => ?_⟩⟩
            · by_cases e : b = a
              · rw [e]; exact hS2.mp he
              · exact hb b (by omega)
            · refine h υ L F1 (Or.inr ⟨hL0, ⟨υ 39 i a, hq.1, fun z => hne (hS2.mpr z), ?_⟩, fun w c q1 q2 q3 => ?_⟩)
              · have := (t2.1 _ hq.1).2.2
                rw [hq.2] at this
                exact this.resolve_left (by omega)
              · apply Classical.byContradiction
                intro z
                have := t2.pc hV hTs q3
                exact q2 (t2.2.2.2 w q1 (by omega))
        exact chk (υ 6 i 3).toNat 0 (by omega) (fun b hb => by omega)
    refine c_seed hV hA hS h0 h1 (fun τ f1 f2 => ?_)
    show WP mX5_leave 27 [vR 6 i, vR 2 j, vI k, vU, vU] [] τ Q
    refine b_X5_leave_27 (key 31 0 τ (by omega) (by omega) f1 ⟨fun u hu => ?_, fun u hu => (f2 u hu.1).1 hu.2, fun u w c hu hm' hlt => ?_, fun u hu hlt => ?_⟩)
    · by_cases e : hm σ j u = k
      · rw [(f2 u hu).1 e]; exact ⟨by omega, by omega, Or.inr (PC.z ⟨hu, e⟩)⟩
      · rw [(f2 u hu).2 e]; exact ⟨by omega, by omega, Or.inl rfl⟩
    · exfalso
      by_cases e : hm σ j u = k
      · rw [(f2 u hu).1 e] at hlt; omega
      · rw [(f2 u hu).2 e] at hlt; omega
    · exfalso
      by_cases e : hm σ j u = k
      · rw [(f2 u hu).1 e] at hlt; omega
      · rw [(f2 u hu).2 e] at hlt; omega
  · -- all are of the BASIN
    refine h σ (-1) FR.rf (Or.inl ⟨rfl, fun u hu => ?_⟩)
    apply Classical.byContradiction
    intro hno
    have hub := st_bd hV hu
    have := cnt_lt (P := fun s => isSt V (s : Int) ∧ σ 28 j s = k.toNat) (Q := fun s => isSt V (s : Int)) (m := u.toNat) (n := 1024) (by omega) (fun x _ z => z.1) (by rw [Int.toNat_of_nonneg hub.1]; exact hu) (fun z => hno ((hS.2.2.1 u hu k h0).mp (by rw [z.2]; exact hkk)))
    omega
/-- the model's least of far over REST k -/
theorem d_leastOf {k s0 : Int} (hV : VOK V) (hT : MT σ V) (hS : MRS σ V) (hk : 0 ≤ k) (hs : isSt V s0) (hs0 : ri σ s0 = k) (hF : ∀ x, far σ x = F x) (hD : DIST V Tg F) (hb : ∀ x, isSt V x → F x ≤ 122890) (h : Q (.inl (some (vI (F s0 / 4096)))) σ) : WP mX13_leastOf 0 [vR 14 0, vI k, vU, vU] [] σ Q := by
  have hpe := hV.pe
  have hcb := hV.cod
  have hcp := cod_pos hV
  refine b_X13_leastOf_0 ?_
  have key : ∀ n x : Nat, ((n + x : Nat) : Int) = cod V → ∀ l, ((l = 1000000000 ∧ ∀ y : Nat, y < x → ri σ (y : Int) ≠ k) ∨ ∃ u, isSt V u ∧ ri σ u = k ∧ l = F u) → WP mX13_leastOf 6 [vR 14 0, vI k, vI l, vI (x : Int)] [] σ Q := by
    intro n
    induction n with
    | zero =>
      intro x hx l hl
      refine b_X13_leastOf_6 ?_
      rw [hT.all hV, hT.pe]
      rcases hl with ⟨_, hl⟩ | ⟨u, u1, u2, u3⟩
      · exfalso
        have hb := hs.1
        unfold inC at hb
        exact hl s0.toNat (by omega) (by rw [Int.toNat_of_nonneg hb.1]; exact hs0)
      · refine ⟨⟨by omega, by omega⟩, fun _ => ⟨by rw [u3]; exact (hD u u1).1, ?_⟩, fun z => by omega⟩
        rw [u3, hS.1.far hV hD hk u1 hs u2 hs0]; exact h
    | succ n ih =>
      intro x hx l hl
      refine b_X13_leastOf_6 ?_
      rw [hT.all hV, hT.pe, Int.toNat_natCast]
      refine ⟨⟨by omega, by omega⟩, fun z => by omega, fun _ => ⟨⟨by omega, by omega⟩, fun hne => ⟨by unfold in32; omega, ih (x + 1) (by omega) l ?_⟩, fun he => ⟨⟨by omega, by omega⟩, by unfold in32; omega, ih (x + 1) (by omega) _ (Or.inr ?_)⟩⟩⟩
      · rcases hl with ⟨l1, l2⟩ | hl
        · refine Or.inl ⟨l1, fun y hy => ?_⟩
          by_cases e : y = x
          · rw [e]; exact hne
          · exact l2 y (by omega)
        · exact Or.inr hl
      · have hx' : isSt V (x : Int) := Classical.byContradiction (fun z => by
          have := hS.2.2.2.2.2.2 x (by omega) z
          omega)
        have e90 : σ 90 0 x = F (x : Int) := by rw [← hF (x : Int)]; rfl
        rw [e90]
        by_cases e : l ≤ F (x : Int)
        · rcases hl with ⟨l1, l2⟩ | ⟨u, u1, u2, u3⟩
          · have := hb _ hx'; omega
          · exact ⟨u, u1, u2, by omega⟩
        · exact ⟨x, hx', he, by omega⟩
  exact key (cod V).toNat 0 (by omega) 1000000000 (Or.inl ⟨rfl, fun y hy => by omega⟩)
theorem d_radiusOf {k : Int} (hV : VOK V) (hT : MT σ V) (hR : MRP σ V) (hS : MRS σ V) (h0 : 0 ≤ k) (h1 : k < σ 14 0 51) (h : ∀ τ r, FR mkP σ τ → RAD V (fun u => isSt V u ∧ ri σ u = k) (BAS V (ri σ) k) r → Q (.inl (some (vI r))) τ) : WP mX13_radiusOf 0 [vR 14 0, vI k, vU, vU] [] σ Q := by
  have hpe := hV.pe
  have hcb := hV.cod
  have hcp := cod_pos hV
  refine b_X13_radiusOf_0 ?_
  obtain ⟨s0, s1, s2⟩ := hS.1.2.2.2.1 k h0 h1
  have hTs : ∀ s, (isSt V s ∧ ri σ s = k) → isSt V s := fun s hs => hs.1
  have e83 : ∀ τ, FR mkP σ τ → ∀ x, τ 83 0 x = σ 83 0 x := fun τ f x => f _ _ _ (fun z => by unfold mkP at z; omega)
  -- the least
  have lst : ∀ τ, FR mkP σ τ → MT τ V → (∀ u, isSt V u → 0 ≤ far τ u ∧ far τ u ≤ 1000000000) → (∀ l, (∃ u, isSt V u ∧ ri σ u = k ∧ l = far τ u ∧ ∀ w, isSt V w → ri σ w = k → l ≤ far τ w) → (l < 1000000000 → Q (.inl (some (vI (l / 4096)))) τ) ∧ (1000000000 ≤ l → Q (.inl (some (vI (-1)))) τ)) → WP mX13_radiusOf 56 [vR 14 0, vI k, vI 1000000000, vI 0] [] τ Q := by
    intro τ f1 hT' hfb fin
    have key : ∀ n x : Nat, ((n + x : Nat) : Int) = cod V → ∀ l, (∀ w, isSt V w → w < x → ri σ w = k → l ≤ far τ w) → (l = 1000000000 ∨ ∃ u, isSt V u ∧ ri σ u = k ∧ l = far τ u) → WP mX13_radiusOf 56 [vR 14 0, vI k, vI l, vI (x : Int)] [] τ Q := by
      intro n
      induction n with
      | zero =>
        intro x hx l hl hl2
        refine b_X13_radiusOf_56 ?_
        rw [hT'.all hV, hT'.pe]
        have hlt : ∀ w, isSt V w → w < x := fun w hw => by have := hw.1; unfold inC at this; omega
        have hu : ∃ u, isSt V u ∧ ri σ u = k ∧ l = far τ u ∧ ∀ w, isSt V w → ri σ w = k → l ≤ far τ w := by
          rcases hl2 with z | ⟨u, u1, u2, u3⟩
          · refine ⟨s0, s1.1, s2, ?_, fun w hw hk => hl w hw (hlt w hw) hk⟩
            have := hl s0 s1.1 (hlt s0 s1.1) s2
            have := hfb s0 s1.1
            omega
          · exact ⟨u, u1, u2, u3, fun w hw hk => hl w hw (hlt w hw) hk⟩
        have hl0 : 0 ≤ l := by
          obtain ⟨u, u1, _, u3, _⟩ := hu
          have := hfb u u1; omega
        exact ⟨⟨by omega, by omega⟩, fun _ => ⟨fun z => ⟨hl0, (fin l hu).1 z⟩, fun z => (fin l hu).2 z⟩, fun z => by omega⟩
      | succ n ih =>
        intro x hx l hl hl2
        refine b_X13_radiusOf_56 ?_
        rw [hT'.all hV, hT'.pe, Int.toNat_natCast, e83 τ f1]
        refine ⟨⟨by omega, by omega⟩, fun z => by omega, fun _ => ⟨⟨by omega, by omega⟩, fun hne => ⟨by unfold in32; omega, ih (x + 1) (by omega) l (fun w hw hwx hk => ?_) hl2⟩, fun he => ⟨⟨by omega, by omega⟩, by unfold in32; omega, ih (x + 1) (by omega) _ (fun w hw hwx hk => ?_) ?_⟩⟩⟩
        · by_cases e : w = x
          · exfalso
            apply hne
            rw [e] at hk
            exact hk
          · exact hl w hw (by omega) hk
        · by_cases e : w = x
          · rw [e]
            have : far τ (x : Int) = τ 90 0 x := rfl
            omega
          · have := hl w hw (by omega) hk; omega
        · have hx' : isSt V (x : Int) := Classical.byContradiction (fun z => by
            have := hS.2.2.2.2.2.2 x (by omega) z
            omega)
          have ef : far τ (x : Int) = τ 90 0 x := rfl
          by_cases e : l ≤ τ 90 0 x
          · rw [show min l (τ 90 0 x) = l by omega]; exact hl2
          · exact Or.inr ⟨x, hx', he, by rw [ef]; omega⟩
    exact key (cod V).toNat 0 (by omega) 1000000000 (fun w hw hwx => by have := hw.1; unfold inC at this; omega) (Or.inl rfl)
  have mark : ∀ n x : Nat, ((n + x : Nat) : Int) = cod V → ∀ τ, FR mkP σ τ → (∀ y : Nat, y < x → isSt V (y : Int) → (τ 89 0 y ≠ 0 ↔ ¬ BAS V (ri σ) k (y : Int))) → WP mX13_radiusOf 2 [vR 14 0, vI k, vI (x : Int), vU] [] τ Q := by
    intro n
    induction n with
    | zero =>
      intro x hx τ hF hk
      have hT' : MT τ V := hT.fr hF (fun c j hc z => by unfold mkP at z; omega)
      have hR' : MRP τ V := hR.fr hF (fun c j hc z => by unfold mkP at z; omega)
      have tgm : ∀ s, isSt V s → (TgM τ V s ↔ ¬ BAS V (ri σ) k s) := fun s hs => by
        have hb := hs.1
        unfold inC at hb
        have := hk s.toNat (by omega)
        rw [Int.toNat_of_nonneg hb.1] at this
        exact ⟨fun z => (this hs).mp z.2, fun z => ⟨hs, (this hs).mpr z⟩⟩
      refine b_X13_radiusOf_2 ?_
      rw [hT'.all hV, hT'.pe]
      refine ⟨⟨by omega, by omega⟩, fun _ => d_findFar hV hT' hR' (fun υ u1 u2 u3 => ?_), fun z => by omega⟩
      have F2 : FR mkP σ υ := hF.tr (u1.wk (fun c i j z => by unfold farP at z; unfold mkP; omega))
      have hT2 : MT υ V := hT.fr F2 (fun c j hc z => by unfold mkP at z; omega)
      show WP mX13_radiusOf 50 [vR 14 0, vI k, vU, vU] [] υ Q
      refine b_X13_radiusOf_50 ?_
      by_cases hex : ∃ t, TgM τ V t
      · obtain ⟨t, ht⟩ := hex
        have hD := u2 ⟨t, ht⟩
        have hle := hD.le hV ht.1 ht
        refine lst υ F2 hT2 (fun u hu => ⟨(hD u hu).1, by have := hle u hu; omega⟩) (fun l hl => ?_)
        obtain ⟨u, v1, v2, v3, v4⟩ := hl
        have := hle u v1
        refine ⟨fun _ => h υ _ F2 (Or.inr ⟨by have := (hD u v1).1; omega, ?_, fun w c w1 w2 w3 => ?_⟩), fun z => by omega⟩
        · obtain ⟨w, w1, w2, w3⟩ := PC.dist (T := fun u => isSt V u ∧ ri σ u = k) hV hD ((far υ u).toNat + 1) u 0 v1 (by have := (hD u v1).1; omega) (PC.z ⟨v1, v2⟩)
          rw [Int.zero_add, ← v3] at w3
          exact ⟨w, w1, (tgm w w1).mp w2, w3⟩
        · obtain ⟨_, s, q1, q2⟩ := w3.lo hV hD hTs
          have := v4 s q1.1 q1.2
          have := (hD w w1).2.1 ((tgm w w1).mpr w2)
          omega
      · have hno : ∀ t, ¬ TgM τ V t := fun t z => hex ⟨t, z⟩
        have hf := u3 hno
        refine lst υ F2 hT2 (fun u hu => by rw [hf u hu]; omega) (fun l hl => ?_)
        obtain ⟨u, v1, v2, v3, v4⟩ := hl
        rw [hf u v1] at v3
        refine ⟨fun z => by omega, fun _ => h υ _ F2 (Or.inl ⟨rfl, fun w hw => ?_⟩)⟩
        exact Classical.byContradiction (fun z => hno w ((tgm w hw).mpr z))
    | succ n ih =>
      intro x hx τ hF hk
      have hT' : MT τ V := hT.fr hF (fun c j hc z => by unfold mkP at z; omega)
      have e84 : τ 84 0 x = σ 84 0 x := hF _ _ _ (fun z => by unfold mkP at z; omega)
      have e88 : τ 88 0 x = σ 88 0 x := hF _ _ _ (fun z => by unfold mkP at z; omega)
      have hxs := hR.1 x (by omega)
      refine b_X13_radiusOf_2 ?_
      rw [hT'.all hV, hT'.pe, Int.toNat_natCast, e84, e88, hxs]
      have nx : ∀ v : Int, (isSt V (x : Int) → (v ≠ 0 ↔ ¬ BAS V (ri σ) k (x : Int))) → in32 ((x : Int) + 1) ∧ WP mX13_radiusOf 2 [vR 14 0, vI k, vI ((x : Int) + 1), vU] [] (up τ 89 0 x v) Q := fun v hv => ⟨by unfold in32; omega, ih (x + 1) (by omega) _ (hF.u ⟨by omega, rfl⟩) (fun y hy hys => by
        by_cases e : y = x
        · rw [e, up_s]; rw [e] at hys; exact hv hys
        · rw [up_j e]; exact hk y (by omega) hys)⟩
      refine ⟨⟨by omega, by omega⟩, fun z => by omega, fun _ => ⟨⟨by omega, by omega⟩, fun hz => ⟨⟨by omega, by omega⟩, nx 0 (fun w => ?_)⟩, fun hz => ⟨⟨by omega, by omega⟩, fun he => ⟨⟨by omega, by omega⟩, nx 0 (fun w => ?_)⟩, fun he => ⟨⟨by omega, by omega⟩, nx 1 (fun w => ?_)⟩⟩⟩⟩
      · rw [b2_t w] at hz; omega
      · have := (hS.2.2.1 (x : Int) w k h0).mp he
        exact ⟨fun z => absurd rfl z, fun z => absurd this z⟩
      · exact ⟨fun _ z => he ((hS.2.2.1 (x : Int) w k h0).mpr z), fun _ => by omega⟩
  exact mark (cod V).toNat 0 (by omega) σ FR.rf (fun y hy => by omega)
theorem d_coradiusOf {k : Int} (hV : VOK V) (hT : MT σ V) (hR : MRP σ V) (hS : MRS σ V) (h0 : 0 ≤ k) (h1 : k < σ 14 0 51) (h : ∀ τ m, FR mkP σ τ → DIST V (fun s => ri σ s = k) (far τ) → MXC V (far τ) m → Q (.inl (some (vI m))) τ) : WP mX13_coradiusOf 0 [vR 14 0, vI k, vU, vU] [] σ Q := by
  have hpe := hV.pe
  have hcb := hV.cod
  have hcp := cod_pos hV
  obtain ⟨s0, s1, s2⟩ := hS.1.2.2.2.1 k h0 h1
  refine b_X13_coradiusOf_0 (d_markRest hV hT hR s1.1 s2 (fun τ f1 hD => ?_))
  show WP mX13_coradiusOf 5 [vR 14 0, vU, vU, vU] [] τ Q
  refine b_X13_coradiusOf_5 ?_
  have hT' : MT τ V := hT.fr f1 (fun c j hc z => by unfold mkP at z; omega)
  have hR' : MRP τ V := hR.fr f1 (fun c j hc z => by unfold mkP at z; omega)
  have key : ∀ n x : Nat, ((n + x : Nat) : Int) = cod V → ∀ l, 0 ≤ l → (∀ w, isSt V w → w < x → far τ w / 4096 ≤ l) → (l = 0 ∨ ∃ u, isSt V u ∧ far τ u / 4096 = l) → WP mX13_coradiusOf 9 [vR 14 0, vU, vI l, vI (x : Int)] [] τ Q := by
    intro n
    induction n with
    | zero =>
      intro x hx l l0 hl hl2
      refine b_X13_coradiusOf_9 ?_
      rw [hT'.all hV, hT'.pe]
      refine ⟨⟨by omega, by omega⟩, fun _ => h τ l f1 hD ⟨fun w hw => hl w hw (by have := hw.1; unfold inC at this; omega), ?_⟩, fun z => by omega⟩
      rcases hl2 with z | z
      · have := hl s0 s1.1 (by have := s1.1.1; unfold inC at this; omega)
        have := (hD s0 s1.1).1
        exact ⟨s0, s1.1, by omega⟩
      · exact z
    | succ n ih =>
      intro x hx l l0 hl hl2
      have hxs := hR'.1 x (by omega)
      refine b_X13_coradiusOf_9 ?_
      rw [hT'.all hV, hT'.pe, Int.toNat_natCast, hxs]
      refine ⟨⟨by omega, by omega⟩, fun z => by omega, fun _ => ⟨⟨by omega, by omega⟩, fun hz => ⟨by unfold in32; omega, ih (x + 1) (by omega) l l0 (fun w hw hwx => ?_) hl2⟩, fun hz => ?_⟩⟩
      · by_cases e : w = x
        · rw [e] at hw; rw [b2_t hw] at hz; omega
        · exact hl w hw (by omega)
      · have hx' : isSt V (x : Int) := Classical.byContradiction (fun z => hz (b2_f z))
        have hd := (hD _ hx').1
        have ef : far τ (x : Int) = τ 90 0 x := rfl
        rw [ef] at hd
        refine ⟨⟨by omega, by omega⟩, hd, by unfold in32; omega, ih (x + 1) (by omega) _ (by omega) (fun w hw hwx => ?_) ?_⟩
        · by_cases e : w = x
          · rw [e, ef]; omega
          · have := hl w hw (by omega); omega
        · by_cases e : l ≤ τ 90 0 x / 4096
          · exact Or.inr ⟨x, hx', by rw [ef]; omega⟩
          · rw [show max l (τ 90 0 x / 4096) = l by omega]; exact hl2
  exact key (cod V).toNat 0 (by omega) 0 (by omega) (fun w hw hwx => by have := hw.1; unfold inC at this; omega) (Or.inl rfl)
end Radius
