/-! ===== the model's stepped and costOf, nears, findFar ===== -/
def stV (V : Vy) (s k : Int) : Int := if ke V (k / ha V).toNat ≠ -1 ∨ wi V s (k / ha V).toNat (k % ha V) = s then -1 else wi V s (k / ha V).toNat (k % ha V)
def csV (V : Vy) (s k : Int) : Int := if tbit (ans V s (k / ha V).toNat) (k % ha V).toNat = true then 1 else 4096 * sl V (k % ha V).toNat + 1
section Far
variable {σ : St} {Q : Res → St → Prop} {V : Vy} {s : Int}
theorem kk_bd (hV : VOK V) {k : Int} (h0 : 0 ≤ k) (h1 : k < pe V * ha V) : (0 ≤ k / ha V ∧ k / ha V < pe V) ∧ (0 ≤ k % ha V ∧ k % ha V < ha V) := by
  have hh := hV.ha
  exact ⟨⟨Int.ediv_nonneg h0 (by omega), Int.ediv_lt_of_lt_mul (by omega) h1⟩, Int.emod_nonneg _ (by omega), Int.emod_lt_of_pos _ (by omega)⟩
theorem ph_bd (hV : VOK V) : 0 ≤ pe V * ha V ∧ pe V * ha V ≤ 40 := by
  have h1 := hV.pe
  have h2 := hV.ha
  exact ⟨Int.mul_nonneg (by omega) (by omega), by have := Int.mul_le_mul h1.2 h2.2 (by omega) (by omega); omega⟩
theorem kk_of (hV : VOK V) {p : Nat} {h : Int} (hp : (p : Int) < pe V) (h0 : 0 ≤ h) (h1 : h < ha V) : ∃ k : Nat, (k : Int) < pe V * ha V ∧ ((k : Int) / ha V).toNat = p ∧ (k : Int) % ha V = h := by
  have hh := hV.ha
  have e0 : 0 ≤ (p : Int) * ha V := Int.mul_nonneg (by omega) (by omega)
  refine ⟨((p : Int) * ha V + h).toNat, ?_, ?_, ?_⟩
  · rw [Int.toNat_of_nonneg (by omega)]
    have : ((p : Int) + 1) * ha V ≤ pe V * ha V := Int.mul_le_mul_of_nonneg_right (by omega) (by omega)
    rw [Int.add_mul, Int.one_mul] at this
    omega
  · rw [Int.toNat_of_nonneg (by omega), Int.add_comm, Int.add_mul_ediv_right _ _ (by omega), Int.ediv_eq_zero_of_lt h0 h1]
    omega
  · rw [Int.toNat_of_nonneg (by omega), Int.add_comm, Int.add_mul_emod_self_right, Int.emod_eq_of_lt h0 h1]
theorem withM_eq (hV : VOK V) (hT : MT σ V) {p x : Int} (hp0 : 0 ≤ p) (hp : p < pe V) : withM σ s p x = wi V s p.toNat x := by
  unfold withM wi hab
  rw [hT.pw p.toNat (by omega), hT.ha]
theorem stp_eq (hV : VOK V) (hT : MT σ V) {k : Int} (h0 : 0 ≤ k) (h1 : k < pe V * ha V) : stp σ s k = stV V s k := by
  have hb := kk_bd hV h0 h1
  have hpe := hV.pe
  unfold stp stV
  rw [hT.ha, withM_eq hV hT hb.1.1 hb.1.2, hT.ke _ (by omega)]
theorem cst_eq (hV : VOK V) (hT : MT σ V) (hR : MRP σ V) (hs : isSt V s) {k : Int} (h0 : 0 ≤ k) (h1 : k < pe V * ha V) : cst σ s k = csV V s k := by
  have hb := kk_bd hV h0 h1
  have hpe := hV.pe
  have hha := hV.ha
  have e := hR.2 s hs (k / ha V).toNat (by omega)
  rw [Int.toNat_of_nonneg hb.1.1] at e
  have ab := ans_bd hV s (p := (k / ha V).toNat) (by omega)
  unfold cst csV
  rw [hT.ha, e, hT.sl _ (by omega)]
  have hi := band_eq1 (m := ans V s (k / ha V).toNat) (q := k % ha V) ab.1 (by omega) hb.2.1 (by omega)
  by_cases c : tbit (ans V s (k / ha V).toNat) (k % ha V).toNat = true
  · rw [if_pos (hi.mpr c), if_pos c]
  · rw [if_neg (fun z => c (hi.mp z)), if_neg c]
theorem stp_sides (hV : VOK V) (hT : MT σ V) (hs : isSt V s) {k : Int} (h0 : 0 ≤ k) (h1 : k < pe V * ha V) : 0 ≤ s ∧ 0 ≤ k ∧ 0 < (σ 14 0 11) ∧ k / (σ 14 0 11) < 10 ∧ 0 < (σ 77 0 ((k / (σ 14 0 11)).toNat)) ∧ in32 (withM σ s (k / (σ 14 0 11)) (k % (σ 14 0 11)) - s) ∧ in32 (withM σ s (k / (σ 14 0 11)) (k % (σ 14 0 11))) := by
  have hb := kk_bd hV h0 h1
  have hpe := hV.pe
  have hha := hV.ha
  rw [hT.ha, hT.pw _ (by omega), withM_eq hV hT hb.1.1 hb.1.2]
  have hw := wi_in hV hs.1 (p := (k / ha V).toNat) (by omega) hb.2.1 hb.2.2
  unfold inC at hw
  have hc := hV.cod
  have hsb := st_bd hV hs
  exact ⟨hsb.1, h0, by omega, by omega, pw_pos hV _, by unfold in32; omega, by unfold in32; omega⟩
theorem stV_mv (hV : VOK V) {k : Int} (h0 : 0 ≤ k) (h1 : k < pe V * ha V) (h : stV V s k ≠ -1) : stV V s k ≠ s ∧ ∃ c, Mv V s (stV V s k) c ∧ csV V s k = 4096 * c + 1 := by
  have hb := kk_bd hV h0 h1
  unfold stV at h ⊢
  by_cases c : ke V (k / ha V).toNat ≠ -1 ∨ wi V s (k / ha V).toNat (k % ha V) = s
  · rw [if_pos c] at h; exact absurd rfl h
  · rw [if_neg c]
    have c1 : ke V (k / ha V).toNat = -1 := Classical.byContradiction (fun z => c (Or.inl z))
    refine ⟨fun z => c (Or.inr z), _, ⟨(k / ha V).toNat, by omega, c1, k % ha V, hb.2.1, hb.2.2, rfl, rfl⟩, ?_⟩
    unfold csV
    split <;> rfl
theorem mv_stV (hV : VOK V) {t c : Int} (hs : isSt V s) (h : Mv V s t c) (hne : t ≠ s) : ∃ k : Nat, (k : Int) < pe V * ha V ∧ stV V s k = t ∧ csV V s k = 4096 * c + 1 := by
  obtain ⟨p, hp, hk, x, h0, h1, h2, h3⟩ := h
  obtain ⟨k, k1, k2, k3⟩ := kk_of hV hp h0 h1
  refine ⟨k, k1, ?_, ?_⟩
  · unfold stV
    rw [k2, k3, if_neg (fun z => z.elim (fun z => z hk) (fun z => hne (by rw [h2]; exact z))), h2]
  · unfold csV
    rw [k2, k3, h3]
    split <;> rfl
def far (σ : St) (s : Int) : Int := σ 90 0 s.toNat
def FI (V : Vy) (Tg : Int → Prop) (f : Int → Int) : Prop := ∀ s, isSt V s → (0 ≤ f s ∧ f s ≤ 1000000000) ∧ (Tg s → f s = 0) ∧ (¬ Tg s → f s = 1000000000 ∨ ∃ t c, Mv V s t c ∧ f t + 4096 * c + 1 ≤ f s)
def RLX (V : Vy) (f : Int → Int) (s : Int) : Prop := ∀ t c, Mv V s t c → t ≠ s → f t < 1000000000 → f s ≤ f t + 4096 * c + 1
def oneP (s : Int) (c i j : Nat) : Prop := c = 90 ∧ i = 0 ∧ j = s.toNat
theorem MRP.fr {P : Nat → Nat → Nat → Prop} {τ : St} (h : MRP σ V) (k : FR P σ τ) (hP : ∀ c j, c = 78 ∨ c = 88 → ¬ P c 0 j) : MRP τ V :=
  ⟨fun s hs => by rw [k _ _ _ (hP _ _ (by omega))]; exact h.1 s hs, fun s hs p hp => by rw [k _ _ _ (hP _ _ (by omega))]; exact h.2 s hs p hp⟩
theorem d_nears {Tg : Int → Prop} (hV : VOK V) (hT : MT σ V) (hR : MRP σ V) (hs : isSt V s) (hI : FI V Tg (far σ)) (h : ∀ τ, FR (oneP s) σ τ → FI V Tg (far τ) → far τ s ≤ far σ s → RLX V (far τ) s → ∀ b, (b = 0 ∨ b = 1) → (b = 1 ↔ far τ s < far σ s) → Q (.inl (some (vI b))) τ) : WP mX13_nears 0 [vR 14 0, vI s, vU, vU, vU] [] σ Q := by
  have hsb := st_bd hV hs
  have hph := ph_bd hV
  have hha := hV.ha
  have hpe := hV.pe
  refine b_X13_nears_0 ⟨⟨by omega, by omega⟩, ?_⟩
  have key : ∀ n k : Nat, ((n + k : Nat) : Int) = pe V * ha V → ∀ τ, FR (oneP s) σ τ → FI V Tg (far τ) → far τ s ≤ far σ s → (∀ k' : Nat, k' < k → stV V s k' ≠ -1 → far τ (stV V s k') < 1000000000 → far τ s ≤ far τ (stV V s k') + csV V s k') → WP mX13_nears 9 [vR 14 0, vI s, vI (far σ s), vI (k : Int), vU] [] τ Q := by
    intro n
    induction n with
    | zero =>
      intro k hk τ hF hI' hle hr
      have hT' : MT τ V := hT.fr hF (fun c j hc z => by unfold oneP at z; omega)
      have hrl : RLX V (far τ) s := fun t c hm hne hlt => by
        obtain ⟨k', k1, k2, k3⟩ := mv_stV hV hs hm hne
        have := hr k' (by omega) (by rw [k2]; have := (st_bd hV (hm.st hV hs)).1; omega) (by rw [k2]; exact hlt)
        rw [k2, k3] at this
        omega
      refine b_X13_nears_9 ?_
      rw [hT'.pe, hT'.ha]
      refine ⟨by unfold in32; omega, fun _ => ⟨⟨by omega, by omega⟩, fun hc => ?_, fun hc => ?_⟩, fun z => by omega⟩
      · exact h τ hF hI' hle hrl 0 (Or.inl rfl) ⟨fun z => by omega, fun z => by unfold far at z hc; omega⟩
      · exact h τ hF hI' hle hrl 1 (Or.inr rfl) ⟨fun _ => hc, fun _ => rfl⟩
    | succ n ih =>
      intro k hk τ hF hI' hle hr
      have hT' : MT τ V := hT.fr hF (fun c j hc z => by unfold oneP at z; omega)
      have hR' : MRP τ V := hR.fr hF (fun c j hc z => by unfold oneP at z; omega)
      have k0 : (0 : Int) ≤ k := by omega
      have k1 : (k : Int) < pe V * ha V := by omega
      have hkb := kk_bd hV k0 k1
      have hsd := stp_sides hV hT' hs k0 k1
      have hslb := hV.sl ((k : Int) % ha V).toNat (by omega)
      refine b_X13_nears_9 ?_
      rw [hT'.pe, hT'.ha] at *
      rw [stp_eq hV hT' k0 k1, cst_eq hV hT' hR' hs k0 k1]
      have nxt : ∀ υ, FR (oneP s) σ υ → FI V Tg (far υ) → far υ s ≤ far σ s → (∀ k' : Nat, k' < k → stV V s k' ≠ -1 → far υ (stV V s k') < 1000000000 → far υ s ≤ far υ (stV V s k') + csV V s k') → (stV V s k ≠ -1 → far υ (stV V s k) < 1000000000 → far υ s ≤ far υ (stV V s k) + csV V s k) → WP mX13_nears 9 [vR 14 0, vI s, vI (far σ s), vI ((k : Int) + 1), vU] [] υ Q := fun υ q1 q2 q3 q4 q5 => ih (k + 1) (by omega) υ q1 q2 q3 (fun k' hk' => by
        by_cases e : k' = k
        · rw [e]; exact q5
        · exact q4 k' (by omega))
      refine ⟨by unfold in32; omega, fun z => by omega, fun _ => ⟨hsd, fun hc => ⟨by unfold in32; omega, nxt τ hF hI' hle hr (fun z => absurd hc z)⟩, fun hc => ?_⟩⟩
      obtain ⟨hne, c, hm, hcs⟩ := stV_mv hV k0 k1 hc
      have htb := st_bd hV (hm.st hV hs)
      have hmb := hm.bd hV
      have hft := (hI' _ (hm.st hV hs)).1
      have hfs := (hI' _ hs).1
      unfold far at hft hfs
      refine ⟨⟨by omega, by omega⟩, fun hlt => ⟨⟨by omega, by omega⟩, ⟨by omega, by omega⟩, ⟨by omega, by omega, by omega, by omega, by omega, by omega, by rw [hT'.sl _ (by omega)]; omega, by rw [hT'.sl _ (by omega)]; omega⟩, by unfold in32; omega, ⟨by omega, by omega⟩, by unfold in32; omega, ?_⟩, fun hge => ⟨by unfold in32; omega, nxt τ hF hI' hle hr (fun _ z => by unfold far at z; omega)⟩⟩
      have hnn : (stV V s k).toNat ≠ s.toNat := by omega
      have fs : ∀ x, far (up τ 90 0 s.toNat (min (τ 90 0 s.toNat) (τ 90 0 (stV V s k).toNat + csV V s k))) x = if x.toNat = s.toNat then min (τ 90 0 s.toNat) (τ 90 0 (stV V s k).toNat + csV V s k) else far τ x := fun x => by
        unfold far up
        by_cases e : x.toNat = s.toNat
        · simp [e]
        · simp [e]
      have fss : far (up τ 90 0 s.toNat (min (τ 90 0 s.toNat) (τ 90 0 (stV V s k).toNat + csV V s k))) s = min (τ 90 0 s.toNat) (τ 90 0 (stV V s k).toNat + csV V s k) := by rw [fs, if_pos rfl]
      have fst : ∀ x, x.toNat ≠ s.toNat → far (up τ 90 0 s.toNat (min (τ 90 0 s.toNat) (τ 90 0 (stV V s k).toNat + csV V s k))) x = far τ x := fun x hx => by rw [fs, if_neg hx]
      have fle : ∀ x, far (up τ 90 0 s.toNat (min (τ 90 0 s.toNat) (τ 90 0 (stV V s k).toNat + csV V s k))) x ≤ far τ x := fun x => by
        by_cases e : x.toNat = s.toNat
        · rw [fs, if_pos e]; unfold far; rw [e]; omega
        · rw [fst x e]; omega
      refine nxt _ (hF.u ⟨rfl, rfl, rfl⟩) (fun x hx => ?_) (by have := fle s; omega) (fun k' hk' z1 z2 => ?_) (fun _ _ => ?_)
      · have hxb := st_bd hV hx
        have hix := hI' x hx
        by_cases e : x = s
        · subst e
          rw [fss]
          refine ⟨by unfold far at hix; omega, fun hTg => ?_, fun hTg => ?_⟩
          · have := hix.2.1 hTg
            unfold far at this
            omega
          · by_cases d : τ 90 0 x.toNat ≤ τ 90 0 (stV V x k).toNat + csV V x k
            · have ex : far τ x = τ 90 0 x.toNat := rfl
              rcases hix.2.2 hTg with z | ⟨t, c', z1, z2⟩
              · exact Or.inl (by omega)
              · exact Or.inr ⟨t, c', z1, by have := fle t; omega⟩
            · right
              refine ⟨stV V x k, c, hm, ?_⟩
              rw [fst _ hnn]
              unfold far
              omega
        · have e' : x.toNat ≠ s.toNat := by omega
          rw [fst x e']
          refine ⟨hix.1, hix.2.1, fun hTg => ?_⟩
          rcases hix.2.2 hTg with z | ⟨t, c', z1, z2⟩
          · exact Or.inl z
          · exact Or.inr ⟨t, c', z1, by have := fle t; omega⟩
      · have e' : (stV V s k').toNat ≠ s.toNat := by
          have hk'0 : (0 : Int) ≤ k' := by omega
          have hk'1 : (k' : Int) < pe V * ha V := by omega
          obtain ⟨n1, c', m1, -⟩ := stV_mv hV hk'0 hk'1 z1
          have := st_bd hV (m1.st hV hs)
          omega
        rw [fst _ e'] at z2 ⊢
        have := hr k' hk' z1 z2
        have := fle s
        omega
      · rw [fst _ hnn, fss]
        unfold far
        omega
  exact key (pe V * ha V).toNat 0 (by omega) σ FR.rf hI (Int.le_refl _) (fun k' hk' => by omega)
end Far
