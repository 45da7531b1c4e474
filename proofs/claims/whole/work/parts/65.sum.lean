/-! ===== the class' Trees: sumAsFixed ===== -/
theorem st_ex (c : Nat → Nat) (n : Nat) : ∃ st : Nat → Nat → Nat, ∀ a v, (∃ j, j ≤ n ∧ itn c j v = a) → st a v ≤ n ∧ itn c (st a v) v = a ∧ ∀ j, itn c j v = a → st a v ≤ j := by
  classical
  refine ⟨fun a v => if h : ∃ j, itn c j v = a then Classical.choose (least_ex h) else 0, fun a v ⟨j, j1, j2⟩ => ?_⟩
  have hex : ∃ j, itn c j v = a := ⟨j, j2⟩
  have hs := Classical.choose_spec (least_ex hex)
  show (if h : ∃ j, itn c j v = a then Classical.choose (least_ex h) else 0) ≤ n ∧ itn c (if h : ∃ j, itn c j v = a then Classical.choose (least_ex h) else 0) v = a ∧ ∀ j, itn c j v = a → (if h : ∃ j, itn c j v = a then Classical.choose (least_ex h) else 0) ≤ j
  rw [dif_pos hex]
  have mn : ∀ j, itn c j v = a → Classical.choose (least_ex hex) ≤ j := fun j hj => Classical.byContradiction (fun z => hs.2 j (by omega) hj)
  exact ⟨by have := mn j j2; omega, hs.1, mn⟩
theorem sm_ones : ∀ n, sm (fun _ => 1) n = n := by
  intro n
  induction n with
  | zero => rfl
  | succ n ih => rw [sm, ih]; push_cast; rfl
theorem fewer {n n' : Nat} {nm : Nat → Nat} (hon : ∀ A, A < n' → ∃ a, a < n ∧ nm a = A) {u v : Nat} (hu : u < n) (hv : v < n) (huv : u ≠ v) (he : nm u = nm v) : n' < n := by
  obtain ⟨a, ha⟩ := sel hon
  have e := sm_sec (n := n) (n' := n') (nm := nm) (R := n') (a := a) (g := fun _ => 1) (fun A hA _ => ha A hA)
  rw [sm_congr (f := fun A => if A = n' then (0 : Int) else (fun _ => 1) (a A)) (g := fun _ => 1) (fun A hA => if_neg (by omega)), sm_ones] at e
  have e : (n' : Int) = sm (fun v => if nm v < n' ∧ nm v ≠ n' ∧ v = a (nm v) then (1 : Int) else 0) n := e
  have hlt : ∀ m, m < n → m ≠ a (nm m) → sm (fun v => if nm v < n' ∧ nm v ≠ n' ∧ v = a (nm v) then (1 : Int) else 0) n < sm (fun _ => 1) n := fun m hm hne => sm_lt (m := m) hm (fun k _ => by
    show (if nm k < n' ∧ nm k ≠ n' ∧ k = a (nm k) then (1 : Int) else 0) ≤ 1
    split <;> omega) (by
    show (if nm m < n' ∧ nm m ≠ n' ∧ m = a (nm m) then (1 : Int) else 0) < 1
    rw [if_neg (fun z => hne z.2.2)]; omega)
  rw [sm_ones] at hlt
  by_cases q : u = a (nm u)
  · have := hlt v hv (fun z => huv (by rw [z, ← he, ← q]))
    omega
  · have := hlt u hu q
    omega
section Sum
variable {σ : St} {Q : Res → St → Prop} {n n' r top : Nat} {ad : Nat → Nat → Prop} {w w' : Nat → Nat → Int}
theorem ts_cg {f : Nat → Nat} (hw : ∀ a b, a < n → b < n → a ≠ b → w a b = w' a b) (ht : TR n r ad f) : ts n r w f = ts n r w' f := by
  obtain ⟨dp, hf⟩ := ht
  unfold ts
  refine sm_congr (fun v hv => ?_)
  show (if v = r then 0 else w v (f v)) = (if v = r then 0 else w' v (f v))
  by_cases e : v = r
  · rw [if_pos e, if_pos e]
  · rw [if_neg e, if_neg e]
    have := hf v hv e
    exact hw v (f v) hv this.1 (fun z => this.2.1 z.symm)
theorem MTS.cg {x : Int} (hw : ∀ a b, a < n → b < n → a ≠ b → w a b = w' a b) (h : MTS n r ad w x) : MTS n r ad w' x := by
  obtain ⟨⟨f, f1, f2⟩, f3⟩ := h
  exact ⟨⟨f, f1, by rw [← ts_cg hw f1]; exact f2⟩, fun g hg => by rw [← ts_cg hw hg]; exact f3 g hg⟩
/-- one round: rings are drawn together -/
theorem round_con {c : Nat → Nat} {mk nm0 : Nat → Int} {nm : Nat → Nat} {k : Nat} (ht : top < n) (hC : CHP n top (fun _ _ => True) w c) (hR : NR n top c mk nm0 n k) (hk : k ≠ 0) (h1 : ∀ a, a < n → nm a < n') (h2 : ∀ a, a < n → nm0 a ≠ -1 → (nm a : Int) = nm0 a) (h3 : ∀ a b, a < n → b < n → nm0 a = -1 → nm a = nm b → a = b) (h4 : ∀ A, A < n' → ∃ a, a < n ∧ nm a = A) (h5 : ∀ A B, A < n' → B < n' → A ≠ B → (∀ a b, a < n → b < n → nm a = A → nm b = B → w' A B ≤ w a b - (if a = top then 0 else w a (c a))) ∧ ∃ a b, a < n ∧ b < n ∧ nm a = A ∧ nm b = B ∧ w' A B = w a b - (if a = top then 0 else w a (c a))) : n' < n ∧ ∀ x, MTS n' (nm top) (fun _ _ => True) w' x → MTS n top (fun _ _ => True) w (ts n top w c + x) := by
  obtain ⟨r1, r2, r3, r4, r5, r6, r7, r8, r9, r10⟩ := hR
  have ntop : nm0 top = -1 := by
    rcases r5 top ht with z | z
    · exact z
    · exact absurd r2 z.1
  have named : ∀ v, v < n → nm0 v ≠ -1 → v ≠ top ∧ c v < n ∧ c v ≠ v ∧ nm (c v) = nm v := fun v hv hne => by
    have hvt : v ≠ top := fun z => hne (by rw [z]; exact ntop)
    have hc := hC v hv hvt
    have e := r6 v hv hne
    refine ⟨hvt, hc.1, hc.2.1, ?_⟩
    have e1 := h2 v hv hne
    have e2 := h2 (c v) hc.1 (by rw [e]; exact hne)
    omega
  obtain ⟨v0, v1, v2⟩ := r8 0 (by omega)
  have hv0 := named v0 v1 (by omega)
  refine ⟨fewer h4 v1 hv0.2.1 (fun z => hv0.2.2.1 z.symm) hv0.2.2.2.symm, fun x hx => ?_⟩
  obtain ⟨st, hst⟩ := st_ex c n
  refine hx.con (st := st) ht hC ⟨h1, h4, fun v hv he => (h3 top v ht hv ntop he.symm).symm, fun a v ha hv he => ?_, fun A B hA hB hAB hAt _ => ?_, fun a b ha hb hat hne _ => ⟨trivial, ?_⟩⟩
  · by_cases e : a = v
    · have := hst a v ⟨0, by omega, e.symm⟩
      exact ⟨this.1, fun z => absurd e z⟩
    · have na : nm0 a ≠ -1 := fun z => e (h3 a v ha hv z he)
      have nv : nm0 v ≠ -1 := fun z => e (h3 v a hv ha z he.symm).symm
      have hreach := r7 a v ha hv na (by rw [← h2 a ha na, ← h2 v hv nv, he])
      obtain ⟨s1, s2, s3⟩ := hst a v hreach
      have hnv := named v hv nv
      refine ⟨s1, fun _ => ⟨hnv.2.2.2, ?_⟩⟩
      have s0 : st a v ≠ 0 := fun z => by rw [z] at s2; exact e s2.symm
      obtain ⟨m, hm⟩ : ∃ m, st a v = m + 1 := ⟨st a v - 1, by omega⟩
      rw [hm] at s2
      have := (hst a (c v) ⟨m, by omega, s2⟩).2.2 m s2
      omega
  · obtain ⟨a, b, q1, q2, q3, q4, q5⟩ := (h5 A B hA hB hAB).2
    refine ⟨a, b, q1, q2, q3, q4, trivial, ?_⟩
    rw [if_neg (fun z => hAt (by rw [← q3, z]))] at q5
    exact q5
  · have := (h5 (nm a) (nm b) (h1 a ha) (h1 b hb) hne).1 a b ha hb rfl rfl
    rw [if_neg hat] at this
    exact this
def w0F (σ : St) (j a b : Nat) : Int := if σ 48 0 a ≠ -1 ∧ σ 48 0 a ≠ (b : Int) then 1000000 else σ 22 j (a * 12 + b)
def suP (c i _j : Nat) : Prop := (49 ≤ c ∧ c ≤ 53) ∧ i = 0
theorem c_sumAsFixed {j N root : Nat} (hN : σ 5 j 0 = (N : Nat)) (hN12 : N ≤ 12) (hr : root < N) (hb : ∀ a b, a < N → b < N → 0 ≤ σ 22 j (a * 12 + b) ∧ σ 22 j (a * 12 + b) ≤ 1000000) (h : ∀ τ x, FR suP σ τ → MTS N root (fun _ _ => True) (w0F σ j) x → Q (.inl (some (vI x))) τ) : WP mX8_sumAsFixed 0 [vR 9 0, vR 2 j, vI (root : Int), vU, vU, vU, vU, vU, vU] [] σ Q := by
  have hw0 : ∀ a b, a < N → b < N → 0 ≤ w0F σ j a b ∧ w0F σ j a b ≤ 1000000 := fun a b ha hb' => by
    unfold w0F
    split
    · omega
    · exact hb a b ha hb'
  -- the rounds
  have rounds : ∀ (m ρ n top : Nat) (acc : Int) (τ : St), m + ρ = 12 → n + ρ ≤ 12 → top < n → (0 ≤ acc ∧ acc ≤ ρ * 12000000) → FR suP σ τ → (∀ a b, a < n → b < n → a ≠ b → 0 ≤ Wn τ a b ∧ Wn τ a b ≤ 1000000) → (∀ x, MTS n top (fun _ _ => True) (Wn τ) x → MTS N root (fun _ _ => True) (w0F σ j) (acc + x)) → WP mX8_sumAsFixed 113 [vR 9 0, vU, vU, vI (n : Int), vI acc, vI (top : Int), vI (ρ : Int), vU, vU] [] τ Q := by
    intro m
    induction m with
    | zero => intro ρ n top acc τ h1 h2 h3; omega
    | succ m ih =>
      intro ρ n top acc τ h1 h2 h3 h4 f1 hw hM
      refine b_X8_sumAsFixed_113 ⟨fun z => by omega, fun _ => ?_⟩
      refine c_chooseCheapest (by omega) h3 hw (fun τ1 g1 g2 g3 g4 g5 => ?_)
      have F1 : FR suP σ τ1 := f1.tr (g1.wk (fun c i _ z => ⟨by omega, z.2⟩))
      have eW1 : Wn τ1 = Wn τ := by funext a b; exact g1 49 0 _ (fun z => by omega)
      show WP mX8_sumAsFixed 129 [vR 9 0, vU, vU, vI (n : Int), vU, vI (top : Int), vI (ρ : Int), vU, vU] [vI (ts n top (Wn τ) (cN τ1)), vI acc] τ1 Q
      refine b_X8_sumAsFixed_129 ⟨by unfold in32; omega, ?_⟩
      have hcc : ∀ v, v < n → v ≠ top → τ1 51 0 v = (cN τ1 v : Nat) ∧ cN τ1 v < n := fun v hv hne => ⟨g2 v hv hne, (g4 v hv hne).1⟩
      refine c_nameRings (by omega) h3 hcc (fun τ2 k u1 u2 => ?_)
      have F2 : FR suP σ τ2 := F1.tr (u1.wk (fun c i _ z => ⟨by have := z.1; omega, z.2⟩))
      show WP mX8_sumAsFixed 139 [vR 9 0, vU, vU, vI (n : Int), vI (acc + ts n top (Wn τ) (cN τ1)), vI (top : Int), vI (ρ : Int), vU, vU] [vI (k : Int)] τ2 Q
      refine b_X8_sumAsFixed_139 ⟨fun hk => ?_, fun hk => ?_⟩
      · have hk0 : k ≠ 0 := by omega
        have hkn : k ≤ n := u2.2.2.2.2.2.2.2.2.2
        have hnm0 : ∀ a, a < n → τ2 53 0 a = -1 ∨ ∃ i : Nat, i < k ∧ τ2 53 0 a = i := fun a ha => (u2.2.2.2.2.1 a ha).imp_right (fun z => z.2)
        refine c_nameOthers (by omega) (by omega) hnm0 (fun i hi => u2.2.2.2.2.2.2.2.1 i hi) (fun τ3 n' v1 v2 v3 v4 v5 v6 => ?_)
        have F3 : FR suP σ τ3 := F2.tr (v1.wk (fun c i _ z => ⟨by omega, z.2⟩))
        have eW3 : Wn τ3 = Wn τ := by
          funext a b
          rw [← eW1]
          show τ3 49 0 _ = τ1 49 0 _
          rw [v1 49 0 _ (fun z => by omega), u1 49 0 _ (fun z => by omega)]
        have e51 : ∀ a, τ3 51 0 a = τ1 51 0 a := fun a => by rw [v1 51 0 _ (fun z => by omega), u1 51 0 _ (fun z => by omega)]
        have ec : cN τ3 = cN τ1 := by funext a; unfold cN; rw [e51]
        -- n' is less, with what the drawing will give
        have hn'n : n' < n := by
          obtain ⟨v0, w1, w2⟩ := u2.2.2.2.2.2.2.2.1 0 (by omega)
          have hne : τ2 53 0 v0 ≠ -1 := by omega
          have hvt : v0 ≠ top := fun z => by
            rcases u2.2.2.2.2.1 v0 w1 with q | q
            · exact hne q
            · exact q.1 (by rw [z]; exact u2.2.1)
          have hc := g4 v0 w1 hvt
          have e6 := u2.2.2.2.2.2.1 v0 w1 hne
          have x1 := v4 v0 w1 hne
          have x2 := v4 (cN τ1 v0) hc.1 (by rw [e6]; exact hne)
          refine fewer v6 w1 hc.1 (fun z => hc.2.1 z.symm) ?_
          unfold nN
          rw [x1, x2, e6]
        show WP mX8_sumAsFixed 156 [vR 9 0, vU, vU, vI (n : Int), vI (acc + ts n top (Wn τ) (cN τ1)), vI (top : Int), vI (ρ : Int), vU, vU] [vI (n' : Int)] τ3 Q
        refine b_X8_sumAsFixed_156 ?_
        have pdb : ∀ a b, a < n → b < n → a ≠ b → 0 ≤ Wn τ3 a b - pdW τ3 top a ∧ Wn τ3 a b - pdW τ3 top a ≤ 1000000 := fun a b ha hb' hne => by
          unfold pdW
          rw [eW3, ec]
          have q1 := hw a b ha hb' hne
          by_cases e : a = top
          · rw [if_pos e]; omega
          · rw [if_neg e]
            have q2 := g4 a ha e
            have q3 := hw a (cN τ1 a) ha q2.1 (fun z => q2.2.1 z.symm)
            have q4 := q2.2.2.2 b hb' (fun z => hne z.symm) trivial
            omega
        refine c_draw (by omega) (by omega) v3 (fun a ha hne => ⟨by rw [e51, ec]; exact g2 a ha hne, by rw [ec]; exact (g4 a ha hne).1, by rw [ec]; exact (g4 a ha hne).2.1⟩) (by rw [eW3]; exact hw) pdb v6 (fun τ4 w1 w2 => ?_)
        have F4 : FR suP σ τ4 := F3.tr (w1.wk (fun c i _ z => ⟨by have := z.1; omega, z.2⟩))
        have e53 : ∀ a, τ4 53 0 a = τ3 53 0 a := fun a => w1 53 0 _ (fun z => by omega)
        show WP mX8_sumAsFixed 167 [vR 9 0, vU, vU, vU, vI (acc + ts n top (Wn τ) (cN τ1)), vI (top : Int), vI (ρ : Int), vU, vI (n' : Int)] [] τ4 Q
        refine b_X8_sumAsFixed_167 ?_
        rw [Int.toNat_natCast, e53, (v3 top h3).1]
        refine ⟨⟨by omega, by omega⟩, by unfold in32; omega, ?_⟩
        rw [show ((ρ : Int) + 1) = ((ρ + 1 : Nat) : Int) by push_cast; rfl]
        have rc := round_con (w := Wn τ) (w' := Wn τ4) (nm := nN τ3) (n' := n') h3 g4 u2 hk0 (fun a ha => (v3 a ha).2) (fun a ha hne => by rw [← (v3 a ha).1]; exact v4 a ha hne) v5 v6 (fun A B hA hB hAB => by
          have := w2 A B hA hB hAB
          unfold pdW at this
          rw [eW3, ec] at this
          exact this)
        refine ih (ρ + 1) n' (nN τ3 top) _ τ4 (by omega) (by omega) (v3 top h3).2 ⟨by omega, by push_cast; omega⟩ F4 (fun A B hA hB hAB => ?_) (fun x hx => ?_)
        · obtain ⟨a, b, q1, q2, q3, q4, q5⟩ := (w2 A B hA hB hAB).2
          have := pdb a b q1 q2 (fun z => hAB (by rw [← q3, ← q4, z]))
          omega
        · have := hM _ (rc.2 x hx)
          rw [Int.add_assoc]; exact this
      · have hk0 : k = 0 := by omega
        subst hk0
        refine h τ2 _ F2 (hM _ (MTS.of g4 ?_))
        obtain ⟨dp, hdp⟩ := u2.2.2.2.2.2.2.2.2.1
        refine ⟨dp, fun v hv hne => ?_⟩
        have hc := g4 v hv hne
        refine ⟨hc.1, hc.2.1, trivial, hdp v hv (u2.2.2.1 v hv hne) ?_⟩
        rcases u2.2.2.2.2.1 v hv with z | ⟨_, i, i1, _⟩
        · exact z
        · omega
  -- the weights
  have fill : ∀ m a : Nat, m + a = N → ∀ τ : St, FR suP σ τ → (∀ u v, u < a → v < N → Wn τ u v = w0F σ j u v) → WP mX8_sumAsFixed 11 [vR 9 0, vR 2 j, vI (root : Int), vI (N : Int), vI (a : Int), vU, vU, vU, vU] [] τ Q := by
    intro m
    induction m with
    | zero =>
      intro a ha τ f1 hv
      have haN : a = N := by omega
      subst haN
      refine b_X8_sumAsFixed_11 ⟨fun _ => ?_, fun z => by omega⟩
      refine rounds 12 0 a root 0 τ (by omega) (by omega) hr ⟨by omega, by omega⟩ f1 (fun u v hu hv' _ => by rw [hv u v hu hv']; exact hw0 u v hu hv') (fun x hx => ?_)
      rw [Int.zero_add]
      exact hx.cg (fun u v hu hv' _ => hv u v hu hv')
    | succ m ih =>
      intro a ha τ f1 hv
      refine b_X8_sumAsFixed_11 ⟨fun z => by omega, fun _ => ?_⟩
      have row : ∀ k b : Nat, k + b = N → ∀ υ : St, FR suP σ υ → (∀ u v, u < a → v < N → Wn υ u v = w0F σ j u v) → (∀ v, v < b → Wn υ a v = w0F σ j a v) → WP mX8_sumAsFixed 20 [vR 9 0, vR 2 j, vI (root : Int), vI (N : Int), vI (a : Int), vI (b : Int), vU, vU, vU] [] υ Q := by
        intro k
        induction k with
        | zero =>
          intro b hb' υ g1 g2 g3
          refine b_X8_sumAsFixed_20 ⟨fun _ => ⟨by unfold in32; omega, ih (a + 1) (by omega) υ g1 (fun u v hu hv' => ?_)⟩, fun z => by omega⟩
          by_cases e : u = a
          · rw [e]; exact g3 v (by omega)
          · exact g2 u v (by omega) hv'
        | succ k ihk =>
          intro b hb' υ g1 g2 g3
          have e48 : υ 48 0 a = σ 48 0 a := g1 48 0 _ (fun z => by unfold suP at z; omega)
          have e22 : ∀ x, υ 22 j x = σ 22 j x := fun x => g1 22 j _ (fun z => by unfold suP at z; omega)
          have put : ∀ y : Int, y = w0F σ j a b → in32 ((b : Int) + 1) ∧ WP mX8_sumAsFixed 20 [vR 9 0, vR 2 j, vI (root : Int), vI (N : Int), vI (a : Int), vI ((b : Int) + 1), vU, vU, vU] [] (up υ 49 0 (a * 12 + b) y) Q := fun y hy => by
            have eq : ∀ u v, v < N → Wn (up υ 49 0 (a * 12 + b) y) u v = if u = a ∧ v = b then y else Wn υ u v := fun u v hv' => by
              unfold Wn
              by_cases e : u = a ∧ v = b
              · rw [if_pos e, e.1, e.2, up_s]
              · rw [if_neg e, up_j (fun z => e (by omega))]
            refine ⟨by unfold in32; omega, ihk (b + 1) (by omega) _ (g1.u ⟨by omega, rfl⟩) (fun u v hu hv' => ?_) (fun v hv' => ?_)⟩
            · rw [eq u v hv', if_neg (fun z => by omega)]; exact g2 u v hu hv'
            · rw [eq a v (by omega)]
              by_cases e : v = b
              · rw [if_pos ⟨rfl, e⟩, hy, e]
              · rw [if_neg (fun z => e z.2)]; exact g3 v (by omega)
          have go54 : ∀ t0 : Int, (t0 = 0 → ¬ (σ 48 0 a ≠ -1 ∧ σ 48 0 a ≠ (b : Int))) → (t0 ≠ 0 → (σ 48 0 a ≠ -1 ∧ σ 48 0 a ≠ (b : Int))) → WP mX8_sumAsFixed 54 [vR 9 0, vR 2 j, vI (root : Int), vI (N : Int), vI (a : Int), vI (b : Int), vU, vU, vU] [vI t0] υ Q := fun t0 h0 h1 => by
            refine b_X8_sumAsFixed_54 ?_
            rw [show (((a : Int) * 12 + (b : Int))).toNat = a * 12 + b by omega, e22]
            refine ⟨by unfold in32; omega, by unfold in32; omega, fun z => ⟨by unfold in32; omega, by unfold in32; omega, ⟨by omega, by omega⟩, ⟨by omega, by omega⟩, put _ ?_⟩, fun z => ⟨⟨by omega, by omega⟩, put _ ?_⟩⟩
            · unfold w0F; rw [if_neg (h0 z)]
            · unfold w0F; rw [if_pos (h1 z)]
          refine b_X8_sumAsFixed_20 ?_
          rw [Int.toNat_natCast, e48]
          refine ⟨fun z => by omega, fun _ => ⟨⟨by omega, by omega⟩, fun he => b_X8_sumAsFixed_53 (go54 0 (fun _ q => q.1 he) (fun z => absurd rfl z)), fun hne => ⟨⟨by omega, by omega⟩, fun he => b_X8_sumAsFixed_53 (go54 0 (fun _ q => q.2 he) (fun z => absurd rfl z)), fun hne2 => go54 1 (fun z => by omega) (fun _ => ⟨hne, hne2⟩)⟩⟩⟩
      exact row N 0 (by omega) τ f1 hv (fun v hv' => by omega)
  refine b_X8_sumAsFixed_0 ?_
  rw [hN]
  exact fill N 0 (by omega) σ FR.rf (fun u v hu => by omega)
end Sum
