/-! ===== trees of least sum: Edmonds' way, the mathematics ===== -/
def TR (n r : Nat) (ad : Nat → Nat → Prop) (f : Nat → Nat) : Prop := ∃ dp : Nat → Nat, ∀ v, v < n → v ≠ r → f v < n ∧ f v ≠ v ∧ ad v (f v) ∧ dp (f v) < dp v
def ts (n r : Nat) (w : Nat → Nat → Int) (f : Nat → Nat) : Int := sm (fun v => if v = r then 0 else w v (f v)) n
def MTS (n r : Nat) (ad : Nat → Nat → Prop) (w : Nat → Nat → Int) (x : Int) : Prop := (∃ f, TR n r ad f ∧ ts n r w f = x) ∧ ∀ f, TR n r ad f → x ≤ ts n r w f
def CHP (n r : Nat) (ad : Nat → Nat → Prop) (w : Nat → Nat → Int) (c : Nat → Nat) : Prop := ∀ v, v < n → v ≠ r → c v < n ∧ c v ≠ v ∧ ad v (c v) ∧ ∀ u, u < n → u ≠ v → ad v u → w v (c v) ≤ w v u
def CON (n r : Nat) (ad : Nat → Nat → Prop) (w : Nat → Nat → Int) (c nm : Nat → Nat) (n' : Nat) (ad' : Nat → Nat → Prop) (w' : Nat → Nat → Int) (st : Nat → Nat → Nat) : Prop := (∀ v, v < n → nm v < n') ∧ (∀ A, A < n' → ∃ v, v < n ∧ nm v = A) ∧ (∀ v, v < n → nm v = nm r → v = r) ∧ (∀ a v, a < n → v < n → nm a = nm v → st a v ≤ n ∧ (a ≠ v → nm (c v) = nm v ∧ st a (c v) < st a v)) ∧ (∀ A B, A < n' → B < n' → A ≠ B → A ≠ nm r → ad' A B → ∃ a b, a < n ∧ b < n ∧ nm a = A ∧ nm b = B ∧ ad a b ∧ w' A B = w a b - w a (c a)) ∧ (∀ a b, a < n → b < n → a ≠ r → nm a ≠ nm b → ad a b → ad' (nm a) (nm b) ∧ w' (nm a) (nm b) ≤ w a b - w a (c a))
section Edm
variable {n r n' : Nat} {ad ad' : Nat → Nat → Prop} {w w' : Nat → Nat → Int} {c nm : Nat → Nat} {st : Nat → Nat → Nat}
theorem sm_sec {R : Nat} {a : Nat → Nat} {g : Nat → Int} (h : ∀ A, A < n' → A ≠ R → a A < n ∧ nm (a A) = A) : sm (fun A => if A = R then 0 else g (a A)) n' = sm (fun v => if nm v < n' ∧ nm v ≠ R ∧ v = a (nm v) then g v else 0) n := by
  have e1 : ∀ v, sm (fun A => if A ≠ R ∧ nm v = A ∧ v = a A then g v else 0) n' = if nm v < n' ∧ nm v ≠ R ∧ v = a (nm v) then g v else 0 := fun v => by
    by_cases hv : nm v < n'
    · rw [sm_one (k := nm v) hv (fun A _ hA => if_neg (fun z => hA z.2.1.symm))]
      by_cases q : nm v ≠ R ∧ v = a (nm v)
      · rw [if_pos ⟨q.1, rfl, q.2⟩, if_pos ⟨hv, q⟩]
      · rw [if_neg (fun z => q ⟨z.1, z.2.2⟩), if_neg (fun z => q z.2)]
    · rw [if_neg (fun z => hv z.1), sm_congr (g := fun _ => 0) (fun A hA => if_neg (fun z => by have := z.2.1; omega)), sm_0]
  have e2 : ∀ A, A < n' → sm (fun v => if A ≠ R ∧ nm v = A ∧ v = a A then g v else 0) n = if A = R then 0 else g (a A) := fun A hA => by
    by_cases q : A = R
    · rw [if_pos q, sm_congr (g := fun _ => 0) (fun v _ => if_neg (fun z => z.1 q)), sm_0]
    · have := h A hA q
      rw [if_neg q, sm_one (k := a A) this.1 (fun v _ hv => if_neg (fun z => hv z.2.2)), if_pos ⟨q, this.2, rfl⟩]
  rw [sm_congr (f := fun A => if A = R then 0 else g (a A)) (g := fun A => sm (fun v => if A ≠ R ∧ nm v = A ∧ v = a A then g v else 0) n) (fun A hA => (e2 A hA).symm), sm_swap (fun A v => if A ≠ R ∧ nm v = A ∧ v = a A then g v else 0) n n']
  exact sm_congr (fun v _ => e1 v)
theorem sel {P : Nat → Nat → Prop} (h : ∀ A, A < n' → ∃ a, P A a) : ∃ f : Nat → Nat, ∀ A, A < n' → P A (f A) := by
  classical
  refine ⟨fun A => if hA : A < n' then Classical.choose (h A hA) else 0, fun A hA => ?_⟩
  show P A (if hA : A < n' then Classical.choose (h A hA) else 0)
  rw [dif_pos hA]
  exact Classical.choose_spec (h A hA)
/-- no rings: the cheapest are a tree -/
theorem MTS.of (hc : CHP n r ad w c) (ht : TR n r ad c) : MTS n r ad w (ts n r w c) := by
  refine ⟨⟨c, ht, rfl⟩, fun f ⟨dp, hf⟩ => sm_le (fun v hv => ?_)⟩
  show (if v = r then 0 else w v (c v)) ≤ (if v = r then 0 else w v (f v))
  by_cases e : v = r
  · rw [if_pos e, if_pos e]; omega
  · rw [if_neg e, if_neg e]
    have := hf v hv e
    exact (hc v hv e).2.2.2 _ this.1 this.2.1 this.2.2.1
/-- a tree, drawn together -/
theorem TR.push {f : Nat → Nat} (hr : r < n) (hc : CHP n r ad w c) (hN : CON n r ad w c nm n' ad' w' st) (ht : TR n r ad f) : ∃ f', TR n' (nm r) ad' f' ∧ ts n' (nm r) w' f' ≤ ts n r w f - ts n r w c := by
  obtain ⟨dp, hf⟩ := ht
  obtain ⟨c1, c2, c3, c4, c5, c6⟩ := hN
  have hex : ∀ A, A < n' → ∃ a, a < n ∧ nm a = A ∧ ∀ v, v < n → nm v = A → dp a ≤ dp v := fun A hA => by
    obtain ⟨v, v1, v2⟩ := c2 A hA
    obtain ⟨m, ⟨a, a1, a2, a3⟩, hm⟩ := least_ex (P := fun d => ∃ a, a < n ∧ nm a = A ∧ dp a = d) ⟨dp v, v, v1, v2, rfl⟩
    refine ⟨a, a1, a2, fun u u1 u2 => ?_⟩
    apply Classical.byContradiction
    intro z
    exact hm (dp u) (by omega) ⟨u, u1, u2, rfl⟩
  obtain ⟨a, ha⟩ := sel hex
  have anr : ∀ A, A < n' → A ≠ nm r → a A ≠ r := fun A hA hn z => hn (by rw [← z]; exact (ha A hA).2.1.symm)
  have fa : ∀ A, A < n' → A ≠ nm r → f (a A) < n ∧ nm (f (a A)) ≠ A ∧ ad (a A) (f (a A)) ∧ dp (f (a A)) < dp (a A) := fun A hA hn => by
    have h1 := ha A hA
    have h2 := hf (a A) h1.1 (anr A hA hn)
    refine ⟨h2.1, fun z => ?_, h2.2.2.1, h2.2.2.2⟩
    have := h1.2.2 _ h2.1 z
    omega
  refine ⟨fun A => nm (f (a A)), ⟨fun A => dp (a A), fun A hA hn => ?_⟩, ?_⟩
  · have h1 := ha A hA
    have h2 := fa A hA hn
    have h3 := c6 (a A) (f (a A)) h1.1 h2.1 (anr A hA hn) (by rw [h1.2.1]; exact fun z => h2.2.1 z.symm) h2.2.2.1
    rw [h1.2.1] at h3
    refine ⟨c1 _ h2.1, h2.2.1, h3.1, ?_⟩
    have := (ha _ (c1 _ h2.1)).2.2 _ h2.1 rfl
    show dp (a (nm (f (a A)))) < dp (a A)
    omega
  · have s1 : ts n' (nm r) w' (fun A => nm (f (a A))) ≤ sm (fun A => if A = nm r then 0 else (fun v => w v (f v) - w v (c v)) (a A)) n' := by
      unfold ts
      refine sm_le (fun A hA => ?_)
      show (if A = nm r then 0 else w' A (nm (f (a A)))) ≤ (if A = nm r then 0 else w (a A) (f (a A)) - w (a A) (c (a A)))
      by_cases e : A = nm r
      · rw [if_pos e, if_pos e]; omega
      · rw [if_neg e, if_neg e]
        have h1 := ha A hA
        have h2 := fa A hA e
        have h3 := (c6 (a A) (f (a A)) h1.1 h2.1 (anr A hA e) (by rw [h1.2.1]; exact fun z => h2.2.1 z.symm) h2.2.2.1).2
        rw [h1.2.1] at h3
        exact h3
    rw [sm_sec (nm := nm) (n := n) (R := nm r) (a := a) (g := fun v => w v (f v) - w v (c v)) (fun A hA hn => ⟨(ha A hA).1, (ha A hA).2.1⟩)] at s1
    have s2 : sm (fun v => if nm v < n' ∧ nm v ≠ nm r ∧ v = a (nm v) then w v (f v) - w v (c v) else 0) n + ts n r w c ≤ ts n r w f := by
      unfold ts
      rw [← sm_add]
      refine sm_le (fun v hv => ?_)
      show (if nm v < n' ∧ nm v ≠ nm r ∧ v = a (nm v) then w v (f v) - w v (c v) else 0) + (if v = r then 0 else w v (c v)) ≤ (if v = r then 0 else w v (f v))
      by_cases e : v = r
      · rw [if_pos e, if_pos e, if_neg (fun z => z.2.1 (by rw [e]))]; omega
      · rw [if_neg e, if_neg e]
        have h1 := hf v hv e
        have h2 := (hc v hv e).2.2.2 _ h1.1 h1.2.1 h1.2.2.1
        split <;> omega
    omega
/-- a tree of what has been drawn together, drawn apart -/
theorem TR.lift {f' : Nat → Nat} (hr : r < n) (hc : CHP n r ad w c) (hN : CON n r ad w c nm n' ad' w' st) (ht : TR n' (nm r) ad' f') : ∃ f, TR n r ad f ∧ ts n r w f = ts n r w c + ts n' (nm r) w' f' := by
  obtain ⟨dp, hf⟩ := ht
  obtain ⟨c1, c2, c3, c4, c5, c6⟩ := hN
  have hex : ∀ A, A < n' → ∃ a, a < n ∧ nm a = A ∧ (A ≠ nm r → ∃ b, b < n ∧ nm b = f' A ∧ ad a b ∧ w' A (f' A) = w a b - w a (c a)) := fun A hA => by
    by_cases e : A = nm r
    · exact ⟨r, hr, e.symm, fun z => absurd e z⟩
    · have h1 := hf A hA e
      obtain ⟨a, b, q1, q2, q3, q4, q5, q6⟩ := c5 A (f' A) hA h1.1 (fun z => h1.2.1 z.symm) e h1.2.2.1
      exact ⟨a, q1, q3, fun _ => ⟨b, q2, q4, q5, q6⟩⟩
  obtain ⟨a, ha⟩ := sel hex
  have hex2 : ∀ A, A < n' → ∃ b, A ≠ nm r → b < n ∧ nm b = f' A ∧ ad (a A) b ∧ w' A (f' A) = w (a A) b - w (a A) (c (a A)) := fun A hA => by
    by_cases e : A = nm r
    · exact ⟨0, fun z => absurd e z⟩
    · obtain ⟨b, hb⟩ := (ha A hA).2.2 e
      exact ⟨b, fun _ => hb⟩
  obtain ⟨b, hb⟩ := sel hex2
  have nmr : ∀ v, v < n → v ≠ r → nm v ≠ nm r := fun v hv hn z => hn (c3 v hv z)
  refine ⟨fun v => if v = a (nm v) then b (nm v) else c v, ⟨fun v => dp (nm v) * (n + 1) + st (a (nm v)) v, fun v hv hn => ?_⟩, ?_⟩
  · have hA := c1 v hv
    have hAn := nmr v hv hn
    have h1 := ha (nm v) hA
    have h2 := hb (nm v) hA hAn
    have h3 := hf (nm v) hA hAn
    show (if v = a (nm v) then b (nm v) else c v) < n ∧ (if v = a (nm v) then b (nm v) else c v) ≠ v ∧ ad v (if v = a (nm v) then b (nm v) else c v) ∧ dp (nm (if v = a (nm v) then b (nm v) else c v)) * (n + 1) + st (a (nm (if v = a (nm v) then b (nm v) else c v))) (if v = a (nm v) then b (nm v) else c v) < dp (nm v) * (n + 1) + st (a (nm v)) v
    by_cases e : v = a (nm v)
    · rw [if_pos e]
      refine ⟨h2.1, fun z => h3.2.1 (by rw [← h2.2.1, z]), ?_, ?_⟩
      · have := h2.2.2.1
        rw [← e] at this; exact this
      · have hB := c1 _ h2.1
        have h4 := (c4 (a (nm (b (nm v)))) (b (nm v)) (ha _ hB).1 h2.1 (ha _ hB).2.1).1
        rw [h2.2.1] at h4 ⊢
        have h5 : (dp (f' (nm v)) + 1) * (n + 1) ≤ dp (nm v) * (n + 1) := Nat.mul_le_mul_right _ h3.2.2.2
        rw [Nat.add_mul, Nat.one_mul] at h5
        omega
    · rw [if_neg e]
      have h4 := hc v hv hn
      have h5 := (c4 (a (nm v)) v h1.1 hv h1.2.1).2 (fun z => e z.symm)
      refine ⟨h4.1, h4.2.1, h4.2.2.1, ?_⟩
      rw [h5.1]
      omega
  · have s1 : ts n' (nm r) w' f' = sm (fun A => if A = nm r then 0 else (fun v => w v (b (nm v)) - w v (c v)) (a A)) n' := by
      unfold ts
      refine sm_congr (fun A hA => ?_)
      show (if A = nm r then 0 else w' A (f' A)) = (if A = nm r then 0 else w (a A) (b (nm (a A))) - w (a A) (c (a A)))
      by_cases e : A = nm r
      · rw [if_pos e, if_pos e]
      · rw [if_neg e, if_neg e, (ha A hA).2.1]
        exact (hb A hA e).2.2.2
    rw [s1, sm_sec (nm := nm) (n := n) (R := nm r) (a := a) (g := fun v => w v (b (nm v)) - w v (c v)) (fun A hA hn => ⟨(ha A hA).1, (ha A hA).2.1⟩)]
    unfold ts
    rw [← sm_add]
    refine sm_congr (fun v hv => ?_)
    show (if v = r then 0 else w v (if v = a (nm v) then b (nm v) else c v)) = (if v = r then 0 else w v (c v)) + (if nm v < n' ∧ nm v ≠ nm r ∧ v = a (nm v) then w v (b (nm v)) - w v (c v) else 0)
    by_cases e : v = r
    · rw [if_pos e, if_pos e, if_neg (fun z => z.2.1 (by rw [e]))]; rfl
    · rw [if_neg e, if_neg e]
      by_cases q : v = a (nm v)
      · rw [if_pos q, if_pos ⟨c1 v hv, nmr v hv e, q⟩]; omega
      · rw [if_neg q, if_neg (fun z => q z.2.2)]; omega
theorem MTS.con {x : Int} (hr : r < n) (hc : CHP n r ad w c) (hN : CON n r ad w c nm n' ad' w' st) (h : MTS n' (nm r) ad' w' x) : MTS n r ad w (ts n r w c + x) := by
  obtain ⟨⟨f', f1, f2⟩, h2⟩ := h
  obtain ⟨f, q1, q2⟩ := f1.lift hr hc hN
  refine ⟨⟨f, q1, by rw [q2, f2]⟩, fun g hg => ?_⟩
  obtain ⟨g', g1, g2⟩ := hg.push hr hc hN
  have := h2 g' g1
  omega
theorem NTS.con (hr : r < n) (hc : CHP n r ad w c) (hN : CON n r ad w c nm n' ad' w' st) (h : ∀ f, ¬ TR n' (nm r) ad' f) : ∀ f, ¬ TR n r ad f := fun f hf => by
  obtain ⟨g', g1, g2⟩ := hf.push hr hc hN
  exact h g' g1
theorem MTS.un {x y : Int} (h : MTS n r ad w x) (h' : MTS n r ad w y) : x = y := by
  obtain ⟨⟨f, f1, f2⟩, f3⟩ := h
  obtain ⟨⟨g, g1, g2⟩, g3⟩ := h'
  have := f3 g g1
  have := g3 f f1
  omega
end Edm
