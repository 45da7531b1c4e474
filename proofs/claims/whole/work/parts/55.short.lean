/-! ===== SHORT ===== -/
def Good (V : Vy) (home : Int → Int) (k : Int) : Prop := ∃ r, RAD V (fun u => isSt V u ∧ home u = k) (BAS V home k) r ∧ (r = -1 ∨ ∃ F m, DIST V (fun s => home s = k) F ∧ MXC V F m ∧ m < r)
def SHV (V : Vy) (home : Int → Int) (n r : Int) : Prop := (0 ≤ r ∧ r < n ∧ Good V home r ∧ ∀ k, 0 ≤ k → k < r → ¬ Good V home k) ∨ (r = -1 ∧ ∀ k, 0 ≤ k → k < n → ¬ Good V home k)
def amP (c i j : Nat) : Prop := (i = 1 ∧ (c = 37 ∨ c = 39 ∨ (c = 6 ∧ j = 3))) ∨ (c = 12 ∧ i = 0 ∧ j = 15)
def shP (c i j : Nat) : Prop := (i = 0 ∧ (c = 37 ∨ c = 39 ∨ (c = 6 ∧ j = 3))) ∨ amP c i j
def AIMOK (σ : St) (V : Vy) : Prop := ∀ k, 0 ≤ k → σ 12 0 15 = k → ∀ F, DIST V (fun s => hm σ 0 s = k) F → ∀ u, isSt V u → Kf σ 1 u = F u / 4096
section Short
variable {σ : St} {Q : Res → St → Prop} {V : Vy} {s t : Int} {home F : Int → Int} {n : Int}
theorem SHV.un {r r' : Int} (h : SHV V home n r) (h' : SHV V home n r') : r = r' := by
  rcases h with ⟨a0, a1, a2, a3⟩ | ⟨a0, a1⟩
  · rcases h' with ⟨b0, b1, b2, b3⟩ | ⟨b0, b1⟩
    · rcases Int.lt_trichotomy r r' with z | z | z
      · exact absurd a2 (b3 r a0 z)
      · exact z
      · exact absurd b2 (a3 r' b0 z)
    · exact absurd a2 (b1 r a0 a1)
  · rcases h' with ⟨b0, b1, b2, b3⟩ | ⟨b0, b1⟩
    · exact absurd b2 (a1 r' b0 b1)
    · omega
theorem Good.cg (hV : VOK V) {g : Int → Int} {k : Int} (hfg : ∀ s, isSt V s → home s = g s) (h : Good V home k) : Good V g k := by
  obtain ⟨r, r1, r2⟩ := h
  have hB : ∀ s, isSt V s → (BAS V home k s ↔ BAS V g k s) := fun s hs => ⟨fun z t t1 t2 => by rw [← hfg t t1.1]; exact z t t1 t2, fun z t t1 t2 => by rw [hfg t t1.1]; exact z t t1 t2⟩
  refine ⟨r, r1.cg (fun s => ⟨fun z => ⟨z.1, by rw [← hfg s z.1]; exact z.2⟩, fun z => ⟨z.1, by rw [hfg s z.1]; exact z.2⟩⟩) hB, ?_⟩
  rcases r2 with z | ⟨F, m, m1, m2, m3⟩
  · exact Or.inl z
  · exact Or.inr ⟨F, m, m1.cg (fun s hs => by rw [hfg s hs]), m2, m3⟩
theorem SHV.cg (hV : VOK V) {g : Int → Int} {r : Int} (hfg : ∀ s, isSt V s → home s = g s) (h : SHV V home n r) : SHV V g n r := by
  have hgf : ∀ s, isSt V s → g s = home s := fun s hs => (hfg s hs).symm
  rcases h with ⟨a0, a1, a2, a3⟩ | ⟨a0, a1⟩
  · exact Or.inl ⟨a0, a1, a2.cg hV hfg, fun k k0 k1 z => a3 k k0 k1 (z.cg hV hgf)⟩
  · exact Or.inr ⟨a0, fun k k0 k1 z => a1 k k0 k1 (z.cg hV hgf)⟩
theorem rad_pos (hV : VOK V) (hH : HOME V home n) {k r : Int} (hk : 0 ≤ k) (h : RAD V (fun u => isSt V u ∧ home u = k) (BAS V home k) r) : r = -1 ∨ 1 ≤ r := by
  rcases h with h | ⟨h1, ⟨u, u1, u2, u3⟩, h3⟩
  · exact Or.inl h.1
  · right
    have := u3 (fun u c => isSt V u ∧ 0 ≤ c ∧ (c = 0 → BAS V home k u)) (fun s hs => ⟨hs.1, by omega, fun _ t t1 t2 => by
      have rs : Rst V s := ((hH.1 s hs.1).resolve_left (fun z => by omega)).2.2
      rw [← (hH.2.1 s t rs t1).mpr t2]; exact hs.2⟩) (fun a b c d ha h1 hm => by
      have hb := hm.bd hV
      refine ⟨hm.st hV ha, by omega, fun z => ?_⟩
      have d0 : d = 0 := by omega
      rw [d0] at hm
      exact (h1.2.2 (by omega)).cl (Rch.one (hm.E0 hV)))
    apply Classical.byContradiction
    intro z
    exact u2 (this.2.2 (by omega))
theorem rad_cor (hV : VOK V) (hH : HOME V home n) {a b r m : Int} (ha : 0 ≤ a) (hb : 0 ≤ b) (hbn : b < n) (han : a < n) (hab' : a ≠ b) (hr : RAD V (fun u => isSt V u ∧ home u = b) (BAS V home b) r) (hD : DIST V (fun s => home s = a) F) (hm : MXC V F m) : r ≤ m := by
  obtain ⟨s, s1, s2⟩ := hH.2.2.2.1 b hb hbn
  have h1 := hm.1 s s1.1
  have h2 := (hD s s1.1).1
  rcases hr with h | ⟨_, _, h3⟩
  · omega
  · obtain ⟨w, w1, w2, w3⟩ := PC.dist (T := fun u => isSt V u ∧ home u = b) hV hD ((F s).toNat + 1) s 0 s1.1 (by omega) (PC.z ⟨s1.1, s2⟩)
    have rw' : Rst V w := ((hH.1 w w1).resolve_left (fun z => by omega)).2.2
    have := h3 w _ w1 (fun z => hab' (by rw [← w2]; exact z w rw' Rch.rf)) w3
    omega
theorem cor_pos (hV : VOK V) (hH : HOME V home n) {k x m : Int} (hk : 0 ≤ k) (hx : isSt V x) (hn : ¬ BAS V home k x) (hD : DIST V (fun s => home s = k) F) (hm : MXC V F m) : 1 ≤ m := by
  apply Classical.byContradiction
  intro hm0
  apply hn
  intro t t1 t2
  have h1 := hm.1 t t1.1
  have h2 := (hD t t1.1).1
  obtain ⟨u, u1, u2⟩ := (hD.zero hV t1.1).mp (by omega)
  have ru : Rst V u := t1.cl hV u2
  rw [(hH.2.1 t u t1 ru).mpr u2]; exact u1
theorem rad_one (hV : VOK V) (hH : HOME V home n) {k r : Int} (hkn : k < n) (hk : 0 ≤ k) (hr : RAD V (fun u => isSt V u ∧ home u = k) (BAS V home k) r) (h1 : r = -1) : ∀ k', 0 ≤ k' → k' < n → k' = k := fun k' h0 hn => by
  obtain ⟨s, s1, s2⟩ := hH.2.2.2.1 k' h0 hn
  rcases hr with h | h
  · rw [← s2]; exact h.2 s s1.1 s s1 Rch.rf
  · omega
/-- one SLIP leads out: not SHORT -/
theorem left_one (hV : VOK V) (hH : HOME V home n) {k s to c : Int} (hk : 0 ≤ k) (hs : isSt V s) (hsk : home s = k) (hm : Mv V s to c) (hc : c ≤ 1) (hto : ¬ BAS V home k to) : ¬ Good V home k := by
  rintro ⟨r, r1, r2⟩
  have hst := hm.st hV hs
  rcases r2 with z | ⟨F, m, m1, m2, m3⟩
  · rcases r1 with h | h
    · exact hto (h.2 to hst)
    · omega
  · have h1 := cor_pos hV hH hk hst hto m1 m2
    rcases r1 with h | ⟨_, _, h⟩
    · omega
    · have := h to _ hst hto ((PC.z ⟨hs, hsk⟩ : PC V (fun u => isSt V u ∧ home u = k) s 0).st hs hm)
      omega
theorem d_isLeftByOne {k : Int} (hV : VOK V) (hT : MT σ V) (hS : MRS σ V) (h0 : 0 ≤ k) (h1 : (∃ s to c, isSt V s ∧ ri σ s = k ∧ Mv V s to c ∧ c ≤ 1 ∧ ¬ BAS V (ri σ) k to) → Q (.inl (some (vI 1))) σ) (h2 : Q (.inl (some (vI 0))) σ) : WP mX13_isLeftByOne 0 [vR 14 0, vI k, vU, vU, vU] [] σ Q := by
  have hpe := hV.pe
  have hcb := hV.cod
  have hcp := cod_pos hV
  have hha := hV.ha
  have hph := ph_bd hV
  refine b_X13_isLeftByOne_0 ?_
  have key : ∀ n x : Nat, ((n + x : Nat) : Int) = cod V → WP mX13_isLeftByOne 2 [vR 14 0, vI k, vI (x : Int), vU, vU] [] σ Q := by
    intro n
    induction n with
    | zero =>
      intro x hx
      refine b_X13_isLeftByOne_2 ?_
      rw [hT.all hV, hT.pe]
      exact ⟨⟨by omega, by omega⟩, fun _ => h2, fun z => by omega⟩
    | succ n ih =>
      intro x hx
      have inner : ∀ m a : Nat, ((m + a : Nat) : Int) = pe V * ha V → WP mX13_isLeftByOne 12 [vR 14 0, vI k, vI (x : Int), vI (a : Int), vU] [] σ Q := by
        intro m
        induction m with
        | zero =>
          intro a ha'
          refine b_X13_isLeftByOne_12 ?_
          rw [hT.pe, hT.ha]
          exact ⟨⟨by omega, by omega⟩, fun _ => ⟨by unfold in32; omega, ih (x + 1) (by omega)⟩, fun _ => ⟨by unfold in32; omega, fun _ => ⟨by unfold in32; omega, ih (x + 1) (by omega)⟩, fun z => by omega⟩⟩
        | succ m ihm =>
          intro a ha'
          by_cases hxs : isSt V (x : Int)
          · have k0 : (0 : Int) ≤ a := by omega
            have k1 : (a : Int) < pe V * ha V := by omega
            have hkb := kk_bd hV k0 k1
            have hsd := stp_sides hV hT hxs k0 k1
            refine b_X13_isLeftByOne_12 ?_
            rw [hT.pe, hT.ha] at *
            rw [stp_eq hV hT k0 k1, hT.sl _ (by omega), Int.toNat_natCast]
            refine ⟨⟨by omega, by omega⟩, fun _ => ⟨by unfold in32; omega, ih (x + 1) (by omega)⟩, fun hri => ⟨by unfold in32; omega, fun z => by omega, fun _ => ⟨hsd, fun _ => ⟨by unfold in32; omega, ihm (a + 1) (by omega)⟩, fun hc => ?_⟩⟩⟩
            obtain ⟨hne, c, hm, hcs⟩ := stV_mv hV k0 k1 hc
            have hst := hm.st hV hxs
            have htb := st_bd hV hst
            refine ⟨⟨by omega, by omega⟩, fun _ => ⟨by unfold in32; omega, ihm (a + 1) (by omega)⟩, fun hon => ⟨⟨by omega, by omega⟩, ⟨by omega, by omega⟩, fun _ => ⟨by unfold in32; omega, ihm (a + 1) (by omega)⟩, fun hsl => ?_⟩⟩
            refine h1 ⟨x, stV V (x : Int) a, c, hxs, hri, hm, ?_, fun z => hon ((hS.2.2.1 _ hst k h0).mpr z)⟩
            unfold csV at hcs
            split at hcs
            · omega
            · rw [hsl] at hcs; omega
          · have := hS.2.2.2.2.2.2 x (by omega) hxs
            refine b_X13_isLeftByOne_12 ?_
            rw [Int.toNat_natCast]
            exact ⟨⟨by omega, by omega⟩, fun _ => ⟨by unfold in32; omega, ih (x + 1) (by omega)⟩, fun z => by omega⟩
      refine b_X13_isLeftByOne_2 ?_
      rw [hT.all hV, hT.pe]
      exact ⟨⟨by omega, by omega⟩, fun z => by omega, fun _ => inner (pe V * ha V).toNat 0 (by omega)⟩
  exact key (cod V).toNat 0 (by omega)
theorem MRS.fr {P : Nat → Nat → Nat → Prop} {τ : St} (h : MRS σ V) (hFr : FR P σ τ) (hP : ∀ c k, (83 ≤ c ∧ c ≤ 87) ∨ (c = 14 ∧ k = 51) → ¬ P c 0 k) : MRS τ V := by
  have g : ∀ c k, ((83 ≤ c ∧ c ≤ 87) ∨ (c = 14 ∧ k = 51)) → τ c 0 k = σ c 0 k := fun c k q => hFr c 0 k (hP c k q)
  have e1 : ri τ = ri σ := by funext s; exact g 83 _ (by omega)
  have e2 : on τ = on σ := by funext s; exact g 84 _ (by omega)
  have e83 : τ 83 0 = σ 83 0 := by funext s; exact g 83 _ (by omega)
  have e84 : τ 84 0 = σ 84 0 := by funext s; exact g 84 _ (by omega)
  have e85 : τ 85 0 = σ 85 0 := by funext s; exact g 85 _ (by omega)
  have e86 : τ 86 0 = σ 86 0 := by funext s; exact g 86 _ (by omega)
  have e87 : τ 87 0 = σ 87 0 := by funext s; exact g 87 _ (by omega)
  have e5 : τ 14 0 51 = σ 14 0 51 := g 14 51 (by omega)
  unfold MRS
  rw [e1, e2, e83, e84, e85, e86, e87, e5]
  exact h
theorem d_short (hV : VOK V) (hT : MT σ V) (hR : MRP σ V) (hS : MRS σ V) (h : ∀ τ r, FR mkP σ τ → SHV V (ri σ) (σ 14 0 51) r → Q (.inl (some (vI r))) τ) : WP mX13_shortly 4 [vR 14 0, vU, vU] [] σ Q := by
  have hn := hS.2.1
  have hn0 := hS.1.2.2.2.2
  refine b_X13_shortly_4 ?_
  have key : ∀ m k : Nat, ((m + k : Nat) : Int) = σ 14 0 51 → ∀ τ, FR mkP σ τ → (∀ k', 0 ≤ k' → k' < (k : Int) → ¬ Good V (ri σ) k') → WP mX13_shortly 6 [vR 14 0, vI (k : Int), vU] [] τ Q := by
    intro m
    induction m with
    | zero =>
      intro k hk τ f1 hno
      have e5 : τ 14 0 51 = σ 14 0 51 := f1 _ _ _ (fun z => by unfold mkP at z; omega)
      refine b_X13_shortly_6 ⟨fun _ => h τ (-1) f1 (Or.inr ⟨rfl, fun k' k0 k1 => hno k' k0 (by omega)⟩), fun z => by omega⟩
    | succ m ih =>
      intro k hk τ f1 hno
      have e5 : τ 14 0 51 = σ 14 0 51 := f1 _ _ _ (fun z => by unfold mkP at z; omega)
      have hT' : MT τ V := hT.fr f1 (fun c j hc z => by unfold mkP at z; omega)
      have hR' : MRP τ V := hR.fr f1 (fun c j hc z => by unfold mkP at z; omega)
      have hS' : MRS τ V := hS.fr f1 (fun c j hc z => by unfold mkP at z; omega)
      have eri : ∀ υ, FR mkP σ υ → ri υ = ri σ := fun υ f => by funext x; exact f _ _ _ (fun z => by unfold mkP at z; omega)
      have nxt : ∀ υ, FR mkP σ υ → ¬ Good V (ri σ) k → in32 ((k : Int) + 1) ∧ WP mX13_shortly 6 [vR 14 0, vI ((k : Int) + 1), vU] [] υ Q := fun υ f hg => ⟨by unfold in32; omega, ih (k + 1) (by omega) υ f (fun k' k0 k1 => by
        by_cases e : k' = k
        · rw [e]; exact hg
        · exact hno k' k0 (by omega))⟩
      refine b_X13_shortly_6 ⟨fun z => by omega, fun _ => ?_⟩
      refine d_isLeftByOne hV hT' hS' (by omega) (fun hl => ?_) ?_
      · show WP mX13_shortly 19 [vR 14 0, vI (k : Int), vU] [vI 1] τ Q
        refine b_X13_shortly_19 ⟨fun z => by omega, fun _ => nxt τ f1 ?_⟩
        rw [eri τ f1] at hl
        obtain ⟨s, to, c, q1, q2, q3, q4, q5⟩ := hl
        exact left_one hV hS.1 (by omega) q1 q2 q3 q4 q5
      · show WP mX13_shortly 19 [vR 14 0, vI (k : Int), vU] [vI 0] τ Q
        refine b_X13_shortly_19 ⟨fun _ => ?_, fun z => absurd rfl z⟩
        refine d_radiusOf hV hT' hR' hS' (by omega) (by omega) (fun υ r u1 hr => ?_)
        rw [eri τ f1] at hr
        have F2 := f1.tr u1
        have hT2 : MT υ V := hT.fr F2 (fun c j hc z => by unfold mkP at z; omega)
        have hR2 : MRP υ V := hR.fr F2 (fun c j hc z => by unfold mkP at z; omega)
        have hS2 : MRS υ V := hS.fr F2 (fun c j hc z => by unfold mkP at z; omega)
        have e52 : υ 14 0 51 = σ 14 0 51 := F2 _ _ _ (fun z => by unfold mkP at z; omega)
        show WP mX13_shortly 30 [vR 14 0, vI (k : Int), vU] [vI r] υ Q
        refine b_X13_shortly_30 ⟨fun hr1 => h υ k F2 (Or.inl ⟨by omega, by omega, ⟨r, hr, Or.inl hr1⟩, hno⟩), fun hr1 => ?_⟩
        refine d_coradiusOf hV hT2 hR2 hS2 (by omega) (by omega) (fun ω m' w1 hD hm => ?_)
        rw [eri υ F2] at hD
        show WP mX13_shortly 42 [vR 14 0, vI (k : Int), vU] [vI m', vI r] ω Q
        refine b_X13_shortly_42 ⟨fun hle => nxt ω (F2.tr w1) (fun hg => ?_), fun hlt => h ω k (F2.tr w1) (Or.inl ⟨by omega, by omega, ⟨r, hr, Or.inr ⟨_, m', hD, hm, hlt⟩⟩, hno⟩)⟩
        obtain ⟨r', r1, r2⟩ := hg
        have er := hr.un r1
        rcases r2 with z | ⟨F, m2, q1, q2, q3⟩
        · omega
        · have := hm.un (hD.uniq hV q1) q2
          omega
  exact key (σ 14 0 51).toNat 0 (by omega) σ FR.rf (fun k' k0 k1 => by omega)
end Short
