/-! ===== the tree of least sum that goes on to the least: the mathematics ===== -/
theorem sm_ge1 {f : Nat → Int} {k : Nat} : ∀ {n : Nat}, k < n → (∀ u, u < n → 0 ≤ f u) → f k ≤ sm f n := by
  intro n hk hf
  have h1 : sm (fun j => if j = k then f k else 0) n = f k := by
    rw [sm_one (k := k) hk (fun j _ hj => if_neg hj), if_pos rfl]
  rw [← h1]
  refine sm_le (fun u hu => ?_)
  show (if u = k then f k else 0) ≤ f u
  by_cases e : u = k
  · rw [if_pos e, e]; omega
  · rw [if_neg e]; exact hf u hu
def AD (r i : Nat) (g : Nat → Nat) (a b : Nat) : Prop := a < i → a ≠ r → g a = b
def AD1 (r i : Nat) (g : Nat → Nat) (j : Nat) (a b : Nat) : Prop := AD r i g a b ∧ (a = i → b = j)
def GT (k N r : Nat) (w : Nat → Nat → Int) (L : Int) (g : Nat → Nat) : Prop := ∀ i, i < k → i ≠ r → g i < N ∧ g i ≠ i ∧ MTS N r (AD1 r i g (g i)) w L ∧ ∀ j, j < g i → j ≠ i → ¬ MTS N r (AD1 r i g j) w L
section GTr
variable {k N r : Nat} {w w' : Nat → Nat → Int} {L x : Int} {g g' : Nat → Nat} {ad ad' : Nat → Nat → Prop}
theorem AD.cg {i : Nat} (h : ∀ a, a < i → a ≠ r → g a = g' a) : AD r i g = AD r i g' := by
  funext a b
  apply propext
  exact ⟨fun z h1 h2 => by rw [← h a h1 h2]; exact z h1 h2, fun z h1 h2 => by rw [h a h1 h2]; exact z h1 h2⟩
theorem AD1.cg {i j : Nat} (h : ∀ a, a < i → a ≠ r → g a = g' a) : AD1 r i g j = AD1 r i g' j := by
  funext a b
  show (AD r i g a b ∧ _) = (AD r i g' a b ∧ _)
  rw [AD.cg h]
theorem AD.su {i : Nat} (hne : i ≠ r) : AD r (i + 1) g = AD1 r i g (g i) := by
  funext a b
  apply propext
  refine ⟨fun z => ⟨fun h1 h2 => z (by omega) h2, fun e => by rw [e] at z; exact (z (by omega) hne).symm⟩, fun z h1 h2 => ?_⟩
  by_cases e : a = i
  · rw [z.2 e, e]
  · exact z.1 (by omega) h2
theorem AD.sr : AD r (r + 1) g = AD r r g := by
  funext a b
  apply propext
  refine ⟨fun z h1 h2 => z (by omega) h2, fun z h1 h2 => z (by omega) h2⟩
theorem GT.un (h : GT N N r w L g) (h' : GT N N r w L g') : ∀ i, i < N → i ≠ r → g i = g' i := by
  have key : ∀ m i, i < m → i < N → i ≠ r → g i = g' i := by
    intro m
    induction m with
    | zero => intro i hi; omega
    | succ m ih =>
      intro i hi hN hr
      have e : ∀ j, AD1 r i g j = AD1 r i g' j := fun j => AD1.cg (fun a ha hne => ih a (by omega) (by omega) hne)
      obtain ⟨a1, a2, a3, a4⟩ := h i hN hr
      obtain ⟨b1, b2', b3, b4⟩ := h' i hN hr
      rcases Nat.lt_trichotomy (g i) (g' i) with z | z | z
      · rw [e] at a3
        exact absurd a3 (b4 _ z a2)
      · exact z
      · rw [← e] at b3
        exact absurd b3 (a4 _ z b2')
  exact fun i hi hr => key (i + 1) i (by omega) hi hr
/-- weights matter only where one may go -/
theorem MTS.cga (hw : ∀ a b, a < N → b < N → a ≠ b → a ≠ r → ad a b → w a b = w' a b) (h : MTS N r ad w x) : MTS N r ad w' x := by
  have e : ∀ f, TR N r ad f → ts N r w f = ts N r w' f := fun f ⟨dp, hf⟩ => sm_congr (fun v hv => by
    by_cases q : v = r
    · rw [if_pos q, if_pos q]
    · rw [if_neg q, if_neg q]
      have := hf v hv q
      exact hw v (f v) hv this.1 (fun z => this.2.1 z.symm) q this.2.2.1)
  obtain ⟨⟨f, f1, f2⟩, f3⟩ := h
  exact ⟨⟨f, f1, by rw [← e f f1]; exact f2⟩, fun h' hh => by rw [← e h' hh]; exact f3 h' hh⟩
theorem GT.cg (hw : ∀ a b, a < N → b < N → a ≠ b → w a b = w' a b) (h : GT k N r w L g) : GT k N r w' L g := fun i hi hr => by
  obtain ⟨a1, a2, a3, a4⟩ := h i hi hr
  exact ⟨a1, a2, a3.cg hw, fun j hj hne z => a4 j hj hne (z.cg (fun a b h1 h2 h3 => (hw a b h1 h2 h3).symm))⟩
theorem GT.step {i : Nat} (hi : i < N) (hr : i ≠ r) (h : MTS N r (AD r i g) w L) : ∃ j, j < N ∧ j ≠ i ∧ MTS N r (AD1 r i g j) w L ∧ ∀ j', j' < j → j' ≠ i → ¬ MTS N r (AD1 r i g j') w L := by
  obtain ⟨⟨f, ⟨dp, hf⟩, f2⟩, f3⟩ := h
  have hfi := hf i hi hr
  have ex : MTS N r (AD1 r i g (f i)) w L := ⟨⟨f, ⟨dp, fun v hv hne => by
    have q := hf v hv hne
    exact ⟨q.1, q.2.1, ⟨q.2.2.1, fun e => by rw [e]⟩, q.2.2.2⟩⟩, f2⟩, fun h' ⟨dp', hh⟩ => f3 h' ⟨dp', fun v hv hne => by
    have q := hh v hv hne
    exact ⟨q.1, q.2.1, q.2.2.1.1, q.2.2.2⟩⟩⟩
  obtain ⟨j, ⟨j1, j2, j3⟩, hm⟩ := least_ex (P := fun j => j < N ∧ j ≠ i ∧ MTS N r (AD1 r i g j) w L) ⟨f i, hfi.1, hfi.2.1, ex⟩
  exact ⟨j, j1, j2, j3, fun j' h1 h2 z => hm j' h1 ⟨by omega, h2, z⟩⟩
theorem GT.ex (h : MTS N r (fun _ _ => True) w L) : ∃ g, GT N N r w L g := by
  have key : ∀ k, k ≤ N → ∃ g, GT k N r w L g ∧ MTS N r (AD r k g) w L := by
    intro k
    induction k with
    | zero => exact fun _ => ⟨fun _ => 0, fun i hi => by omega, h.ad (fun a b _ _ _ => ⟨fun _ h1 => by omega, fun _ => trivial⟩)⟩
    | succ k ih =>
      intro hk
      obtain ⟨g, g1, g2⟩ := ih (by omega)
      by_cases e : k = r
      · refine ⟨g, fun i hi hne => g1 i (by omega) hne, ?_⟩
        subst e; rw [AD.sr]; exact g2
      · obtain ⟨j, j1, j2, j3, j4⟩ := GT.step (by omega) e g2
        have eg : ∀ a, a < k → (fun a => if a = k then j else g a) a = g a := fun a ha => if_neg (by omega)
        have ek : (fun a => if a = k then j else g a) k = j := if_pos rfl
        generalize (fun a => if a = k then j else g a) = g' at eg ek
        refine ⟨g', fun i hi hne => ?_, ?_⟩
        · have e1 : ∀ j, AD1 r i g' j = AD1 r i g j := fun j => AD1.cg (fun a ha _ => eg a (by omega))
          by_cases q : i = k
          · subst q
            rw [ek]
            exact ⟨j1, j2, by rw [e1]; exact j3, fun j' h1 h2 => by rw [e1]; exact j4 j' h1 h2⟩
          · rw [eg i (by omega)]
            have := g1 i (by omega) hne
            exact ⟨this.1, this.2.1, by rw [e1]; exact this.2.2.1, fun j' h1 h2 => by rw [e1]; exact this.2.2.2 j' h1 h2⟩
        · rw [AD.su e, ek, AD1.cg (g' := g) (fun a ha _ => eg a ha)]; exact j3
  obtain ⟨g, g1, _⟩ := key N (by omega)
  exact ⟨g, g1⟩
/-- edges that are barred by a price -/
theorem MTS.bar {B : Int} (hB : L < B) (hw : ∀ a b, a < N → b < N → a ≠ b → 0 ≤ w a b) (h1 : ∀ a b, a < N → b < N → a ≠ b → ad a b → w' a b = w a b) (h2 : ∀ a b, a < N → b < N → a ≠ b → a ≠ r → ¬ ad a b → w' a b = B) (hB0 : 0 ≤ B) (h : MTS N r (fun _ _ => True) w' x) : x = L ↔ MTS N r ad w L := by
  have nn : ∀ a b, a < N → b < N → a ≠ b → a ≠ r → 0 ≤ w' a b := fun a b p q s t => by
    by_cases e : ad a b
    · rw [h1 a b p q s e]; exact hw a b p q s
    · rw [h2 a b p q s t e]; exact hB0
  have lo : ∀ f, TR N r (fun _ _ => True) f → ts N r w' f < B → TR N r ad f := fun f ⟨dp, hf⟩ hlt => ⟨dp, fun v hv hne => by
    have q := hf v hv hne
    refine ⟨q.1, q.2.1, ?_, q.2.2.2⟩
    apply Classical.byContradiction
    intro z
    have e1 := h2 v (f v) hv q.1 (fun z => q.2.1 z.symm) hne z
    have e2 := sm_ge1 (f := fun v => if v = r then 0 else w' v (f v)) (n := N) (k := v) hv (fun u hu => by
      show 0 ≤ (if u = r then 0 else w' u (f u))
      by_cases e : u = r
      · rw [if_pos e]; omega
      · rw [if_neg e]
        have := hf u hu e
        exact nn u _ hu this.1 (fun z => this.2.1 z.symm) e)
    rw [if_neg hne, e1] at e2
    unfold ts at hlt
    omega⟩
  have up1 : ∀ f, TR N r ad f → TR N r (fun _ _ => True) f := fun f ⟨dp, hf⟩ => ⟨dp, fun v hv hne => ⟨(hf v hv hne).1, (hf v hv hne).2.1, trivial, (hf v hv hne).2.2.2⟩⟩
  have eq : ∀ f, TR N r ad f → ts N r w' f = ts N r w f := fun f ⟨dp, hf⟩ => sm_congr (fun v hv => by
    by_cases q : v = r
    · rw [if_pos q, if_pos q]
    · rw [if_neg q, if_neg q]
      have := hf v hv q
      exact h1 v (f v) hv this.1 (fun z => this.2.1 z.symm) this.2.2.1)
  obtain ⟨⟨f, f1, f2⟩, f3⟩ := h
  constructor
  · intro e
    have t1 := lo f f1 (by omega)
    exact ⟨⟨f, t1, by rw [← eq f t1]; omega⟩, fun g hg => by rw [← eq g hg]; have := f3 g (up1 g hg); omega⟩
  · rintro ⟨⟨g, g1, g2⟩, g3⟩
    have t1 := f3 g (up1 g g1)
    rw [eq g g1] at t1
    have t2 := lo f f1 (by omega)
    have t3 := g3 f t2
    rw [← eq f t2] at t3
    omega
end GTr
/-! ===== the class' grow ===== -/
def grP (c i k : Nat) : Prop := i = 0 ∧ ((47 ≤ c ∧ c ≤ 53) ∨ (c = 9 ∧ k = 0))
section Grow
variable {j : Nat} {σ : St} {Q : Res → St → Prop}
theorem c_grow {N root : Nat} (hN : σ 5 j 0 = (N : Nat)) (hN12 : N ≤ 12) (hr : root < N) (hb : ∀ a b, a < N → b < N → 0 ≤ σ 22 j (a * 12 + b) ∧ σ 22 j (a * 12 + b) ≤ 30) (h : ∀ τ L g, FR grP σ τ → MTS N root (fun _ _ => True) (btw σ j) L → GT N N root (btw σ j) L g → τ 9 0 0 = (N : Nat) → (∀ a, a < N → τ 47 0 a = if a = root then -1 else (g a : Int)) → Q (.inl (some (vI L))) τ) : WP mX8_grow 0 [vR 9 0, vR 2 j, vI (root : Int), vU, vU, vU, vU] [] σ Q := by
  refine b_X8_grow_0 (c_leastSum (N := N) hN hN12 hr (fun a b ha hb' => by have := hb a b ha hb'; omega) (fun τ0 L f0 h48 hM => ?_))
  show WP mX8_grow 6 [vR 9 0, vR 2 j, vI (root : Int), vU, vU, vU, vU] [vI L] τ0 Q
  have F0 : FR grP σ τ0 := f0.wk (fun c i k z => ⟨z.2, Or.inl ⟨by have := z.1; omega, by have := z.1; omega⟩⟩)
  have hL := star (B := 30) hr (by omega) (fun a b ha hb' _ => hb a b ha hb') hM
  have hL2 : L < 1000000 := by omega
  obtain ⟨g, hG⟩ := GT.ex hM
  have e5 : ∀ υ, FR grP σ υ → υ 5 j 0 = (N : Nat) := fun υ f => by rw [f 5 j 0 (fun z => by unfold grP at z; omega)]; exact hN
  have e22 : ∀ υ, FR grP σ υ → ∀ x, υ 22 j x = σ 22 j x := fun υ f x => f 22 j x (fun z => by unfold grP at z; omega)
  refine b_X8_grow_6 ?_
  rw [e5 τ0 F0]
  have outer : ∀ m i : Nat, m + i = N → ∀ τ : St, FR grP σ τ → (∀ a, a < 12 → τ 48 0 a = if a < i ∧ a ≠ root then (g a : Int) else -1) → WP mX8_grow 19 [vR 9 0, vR 2 j, vI (root : Int), vI L, vI (N : Int), vI (i : Int), vU] [] τ Q := by
    intro m
    induction m with
    | zero =>
      intro i hi τ f1 h1
      refine b_X8_grow_19 ⟨fun _ => ?_, fun z => by omega⟩
      refine h _ L g ((f1.u ⟨rfl, Or.inr ⟨rfl, rfl⟩⟩).uR (fun k _ _ => ⟨rfl, Or.inl ⟨by omega, by omega⟩⟩)) hM hG ?_ (fun a ha => ?_)
      · unfold upR
        rw [if_neg (fun z => by omega), up_s]
      · unfold upR
        rw [if_pos ⟨rfl, rfl, by omega, by omega⟩]
        show (up τ 9 0 0 (N : Int)) 48 0 (0 + (a - 0)) = _
        rw [up_c (by omega), show 0 + (a - 0) = a by omega, h1 a (by omega)]
        by_cases e : a = root
        · rw [if_pos e, if_neg (fun z => z.2 e)]
        · rw [if_neg e, if_pos ⟨by omega, e⟩]
    | succ m ih =>
      intro i hi τ f1 h1
      refine b_X8_grow_19 ⟨fun z => by omega, fun _ => ?_⟩
      by_cases er : i = root
      · refine b_X8_grow_29 ⟨fun z => by omega, fun _ => ⟨fun _ => ⟨by unfold in32; omega, ?_⟩, fun z => by omega⟩⟩
        refine ih (i + 1) (by omega) τ f1 (fun a ha => ?_)
        rw [h1 a ha]
        by_cases e : a < i ∧ a ≠ root
        · rw [if_pos e, if_pos ⟨by omega, e.2⟩]
        · rw [if_neg e, if_neg (fun z => e ⟨by omega, z.2⟩)]
      · obtain ⟨q1, q2, q3, q4⟩ := hG i (by omega) er
        have inner : ∀ r y : Nat, r + y = g i → ∀ υ : St, FR grP σ υ → (∀ a, a < 12 → a ≠ i → υ 48 0 a = if a < i ∧ a ≠ root then (g a : Int) else -1) → WP mX8_grow 29 [vR 9 0, vR 2 j, vI (root : Int), vI L, vI (N : Int), vI (i : Int), vI (y : Int)] [] υ Q := by
          have sumf : ∀ (y : Nat) (υ : St), y < N → y ≠ i → FR grP σ υ → (∀ a, a < 12 → a ≠ i → υ 48 0 a = if a < i ∧ a ≠ root then (g a : Int) else -1) → (∀ ω x, FR suP (up υ 48 0 i y) ω → FR grP σ ω → (x = L ↔ MTS N root (AD1 root i g y) (btw σ j) L) → WP mX8_grow 67 [vR 9 0, vR 2 j, vI (root : Int), vI L, vI (N : Int), vI (i : Int), vI (y : Int)] [vI x] ω Q) → WP mX8_sumAsFixed 0 [vR 9 0, vR 2 j, vI (root : Int), vU, vU, vU, vU, vU, vU] [] (up υ 48 0 i y) (CT mX8_grow 67 [vR 9 0, vR 2 j, vI (root : Int), vI L, vI (N : Int), vI (i : Int), vI (y : Int)] [] Q) := fun y υ hy hyi f2 h2 k => by
            have f3 : FR grP σ (up υ 48 0 i y) := f2.u ⟨rfl, Or.inl ⟨by omega, by omega⟩⟩
            have e48 : ∀ a, a < 12 → (up υ 48 0 i (y : Int)) 48 0 a = if a = i then (y : Int) else if a < i ∧ a ≠ root then (g a : Int) else -1 := fun a ha => by
              by_cases e : a = i
              · rw [if_pos e, e, up_s]
              · rw [if_neg e, up_j e]; exact h2 a ha e
            refine c_sumAsFixed (N := N) (e5 _ f3) hN12 hr (fun a b ha hb' => by rw [e22 _ f3]; have := hb a b ha hb'; omega) (fun ω x o1 o2 => k ω x o1 (f3.tr (o1.wk (fun c i' k z => ⟨z.2, Or.inl ⟨by have := z.1; omega, by have := z.1; omega⟩⟩))) ?_)
            refine MTS.bar (B := 1000000) hL2 (fun a b ha hb' _ => (hb a b ha hb').1) (fun a b ha hb' hab' hd => ?_) (fun a b ha hb' hab' har hd => ?_) (by omega) o2
            · unfold w0F
              rw [e48 a (by omega), e22 _ f3]
              refine if_neg (fun z => ?_)
              by_cases e : a = i
              · rw [if_pos e] at z
                exact z.2 (by rw [hd.2 e])
              · rw [if_neg e] at z
                by_cases e2 : a < i ∧ a ≠ root
                · rw [if_pos e2] at z
                  exact z.2 (by rw [hd.1 e2.1 e2.2])
                · rw [if_neg e2] at z
                  exact z.1 rfl
            · unfold w0F
              rw [e48 a (by omega)]
              refine if_pos ?_
              by_cases e : a = i
              · rw [if_pos e]
                refine ⟨by omega, fun z => hd ⟨fun z1 _ => by omega, fun _ => by omega⟩⟩
              · rw [if_neg e]
                by_cases e2 : a < i ∧ a ≠ root
                · rw [if_pos e2]
                  refine ⟨by omega, fun z => hd ⟨fun _ _ => by omega, fun z1 => absurd z1 e⟩⟩
                · exact absurd ⟨fun z1 z2 => absurd ⟨z1, z2⟩ e2, fun z1 => absurd z1 e⟩ hd
          intro r
          induction r with
          | zero =>
            intro y hy υ f2 h2
            have hy' : y = g i := by omega
            refine b_X8_grow_29 ⟨fun z => by omega, fun _ => ⟨fun z => by omega, fun _ => ⟨fun _ => ⟨⟨by omega, by omega⟩, ?_⟩, fun z => by omega⟩⟩⟩
            rw [Int.toNat_natCast]
            refine sumf y υ (by omega) (by omega) f2 h2 (fun ω x o1 o2 o3 => b_X8_grow_67 ⟨fun z => ?_, fun _ => ⟨by unfold in32; omega, ?_⟩⟩)
            · rw [hy'] at o3
              exact absurd (o3.mpr q3) z
            · refine ih (i + 1) (by omega) ω o2 (fun a ha => ?_)
              rw [o1 48 0 a (fun z => by unfold suP at z; omega)]
              by_cases e : a = i
              · rw [e, up_s, if_pos ⟨by omega, er⟩, hy']
              · rw [up_j e, h2 a ha e]
                by_cases e2 : a < i ∧ a ≠ root
                · rw [if_pos e2, if_pos ⟨by omega, e2.2⟩]
                · rw [if_neg e2, if_neg (fun z => e2 ⟨by omega, z.2⟩)]
          | succ r ihr =>
            intro y hy υ f2 h2
            refine b_X8_grow_29 ⟨fun z => by omega, fun _ => ⟨fun z => by omega, fun _ => ⟨fun hne => ⟨⟨by omega, by omega⟩, ?_⟩, fun z => ⟨by unfold in32; omega, ihr (y + 1) (by omega) υ f2 h2⟩⟩⟩⟩
            rw [Int.toNat_natCast]
            refine sumf y υ (by omega) (by omega) f2 h2 (fun ω x o1 o2 o3 => b_X8_grow_67 ⟨fun z => ⟨by unfold in32; omega, ?_⟩, fun z => absurd (o3.mp z) (q4 y (by omega) (by omega))⟩)
            refine ihr (y + 1) (by omega) ω o2 (fun a ha hai => ?_)
            rw [o1 48 0 a (fun z => by unfold suP at z; omega), up_j hai]
            exact h2 a ha hai
        exact inner (g i) 0 (by omega) τ f1 (fun a ha hai => h1 a ha)
  exact outer N 0 (by omega) τ0 F0 (fun a ha => by rw [if_neg (fun z => by omega)]; exact h48 a ha)
end Grow
