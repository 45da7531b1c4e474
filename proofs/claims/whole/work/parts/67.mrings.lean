/-! ===== the model's rings: the mathematics ===== -/
theorem php {n : Nat} {f : Nat → Nat} (h : ∀ i, i ≤ n → f i < n) : ∃ i j, i < j ∧ j ≤ n ∧ f i = f j := by
  apply Classical.byContradiction
  intro hno
  have inj : ∀ i j, i < j → j ≤ n → f i ≠ f j := fun i j h1 h2 z => hno ⟨i, j, h1, h2, z⟩
  have key : ∀ k, k ≤ n + 1 → cnt (fun x => ∃ i, i < k ∧ f i = x) n = k := by
    intro k
    induction k with
    | zero => intro _; exact cnt_0 (fun x _ ⟨i, i1, _⟩ => by omega)
    | succ k ih =>
      intro hk
      rw [cnt_add (P := fun x => ∃ i, i < k ∧ f i = x) (Q := fun x => ∃ i, i < k + 1 ∧ f i = x) (m := f k) (n := n) (h k (by omega)) (fun x _ hx => ⟨fun ⟨i, i1, i2⟩ => ⟨i, by omega, i2⟩, fun ⟨i, i1, i2⟩ => ⟨i, by
        apply Classical.byContradiction
        intro q
        exact hx (by rw [← i2, show i = k by omega]), i2⟩⟩) ⟨k, by omega, rfl⟩ (fun ⟨i, i1, i2⟩ => inj i k i1 (by omega) i2), ih (by omega)]
  have h1 := key (n + 1) (Nat.le_refl _)
  have h2 := cnt_bd (fun x => ∃ i, i < n + 1 ∧ f i = x) n
  omega
def RGI (n top : Nat) (c : Nat → Nat) (nm : Nat → Int) (a k : Nat) : Prop := (∀ v, v < n → nm v = -1 ∨ (v ≠ top ∧ ∃ i : Nat, i < k ∧ nm v = i)) ∧ (∀ v, v < n → nm v ≠ -1 → nm (c v) = nm v) ∧ (∀ u v, u < n → v < n → nm u ≠ -1 → nm u = nm v → ∃ j, j ≤ n ∧ itn c j v = u) ∧ (∀ i : Nat, i < k → ∃ v, v < n ∧ nm v = i) ∧ (∀ v, v < a → ∃ j, itn c j v = top ∨ (itn c j v < n ∧ nm (itn c j v) ≠ -1)) ∧ k ≤ a
section MRings
variable {n n' top a k : Nat} {c : Nat → Nat} {nm nm' : Nat → Int}
/-- behind n steps one is in a ring -/
theorem in_ring {v : Nat} (h : ∀ s, s ≤ n → itn c s v < n) : ∃ p, 0 < p ∧ p ≤ n ∧ itn c p (itn c n v) = itn c n v ∧ ∀ s t, s < t → t < p → itn c s (itn c n v) ≠ itn c t (itn c n v) := by
  obtain ⟨l, m, h1, h2, h3⟩ := php (f := fun s => itn c s v) h
  have hp : itn c (m - l) (itn c n v) = itn c n v := by
    rw [← itn_add, show m - l + n = (n - l) + m by omega, itn_add, ← h3, ← itn_add, show n - l + l = n by omega]
  obtain ⟨p, ⟨p1, p2⟩, p3⟩ := least_ex (P := fun p => 0 < p ∧ itn c p (itn c n v) = itn c n v) ⟨m - l, by omega, hp⟩
  have pm : p ≤ m - l := Classical.byContradiction (fun z => p3 (m - l) (by omega) ⟨by omega, hp⟩)
  refine ⟨p, p1, by omega, p2, fun s t h1 h2 h3 => ?_⟩
  refine p3 (p - t + s) (by omega) ⟨by omega, ?_⟩
  rw [itn_add, h3, ← itn_add, show p - t + t = p by omega, p2]
theorem RGI.skip (h : RGI n top c nm a k) (hj : ∃ j, itn c j a = top ∨ (itn c j a < n ∧ nm (itn c j a) ≠ -1)) : RGI n top c nm (a + 1) k := by
  obtain ⟨h1, h2, h3, h4, h5, h6⟩ := h
  refine ⟨h1, h2, h3, h4, fun v hv => ?_, by omega⟩
  by_cases e : v = a
  · rw [e]; exact hj
  · exact h5 v (by omega)
theorem RGI.ring {u p : Nat} (h : RGI n top c nm a k) (hp0 : 0 < p) (hpn : p ≤ n) (hp : itn c p u = u) (hd : ∀ s t, s < t → t < p → itn c s u ≠ itn c t u) (hY : ∀ s, s < p → itn c s u < n ∧ itn c s u ≠ top) (hu : ∃ j, itn c j a = u) (hnm : nm u = -1) (n1 : ∀ s, s < p → nm' (itn c s u) = (k : Nat)) (n2 : ∀ v, (∀ s, s < p → v ≠ itn c s u) → nm' v = nm v) : RGI n top c nm' (a + 1) (k + 1) := by
  obtain ⟨h1, h2, h3, h4, h5, h6⟩ := h
  have inY : ∀ v, (∃ s, s < p ∧ v = itn c s u) ∨ (∀ s, s < p → v ≠ itn c s u) := fun v => by
    by_cases q : ∃ s, s < p ∧ v = itn c s u
    · exact Or.inl q
    · exact Or.inr (fun s hs z => q ⟨s, hs, z⟩)
  have fwd : ∀ j v, v < n → nm v ≠ -1 → (∀ i, i < j → itn c i v < n) → nm (itn c j v) = nm v := by
    intro j
    induction j with
    | zero => intro v _ _ _; rfl
    | succ j ih =>
      intro v hv hne hb
      have e := ih v hv hne (fun i hi => hb i (by omega))
      rw [itn_s, h2 _ (hb j (by omega)) (by rw [e]; exact hne), e]
  have nmY : ∀ s, s < p → nm (itn c s u) = -1 := fun s hs => by
    apply Classical.byContradiction
    intro z
    have e := fwd (p - s) (itn c s u) (hY s hs).1 z (fun i hi => by rw [← itn_add]; exact (hY (i + s) (by omega)).1)
    rw [← itn_add, show p - s + s = p by omega, hp, hnm] at e
    exact z e.symm
  have nold : ∀ v, nm v ≠ -1 → nm' v = nm v := fun v hv => n2 v (fun s hs z => hv (by rw [z]; exact nmY s hs))
  have nxt : ∀ s, s < p → ∃ t, t < p ∧ c (itn c s u) = itn c t u := fun s hs => by
    rw [← itn_s c s u]
    by_cases e : s + 1 = p
    · exact ⟨0, hp0, by rw [e, hp]; rfl⟩
    · exact ⟨s + 1, by omega, rfl⟩
  refine ⟨fun v hv => ?_, fun v hv hne => ?_, fun x v hx hv hne he => ?_, fun i hi => ?_, fun v hv => ?_, by omega⟩
  · rcases inY v with ⟨s, s1, s2⟩ | q
    · right
      rw [s2, n1 s s1]
      exact ⟨(hY s s1).2, k, by omega, rfl⟩
    · rw [n2 v q]
      rcases h1 v hv with z | ⟨z1, i, i1, i2⟩
      · exact Or.inl z
      · exact Or.inr ⟨z1, i, by omega, i2⟩
  · rcases inY v with ⟨s, s1, s2⟩ | q
    · obtain ⟨t, t1, t2⟩ := nxt s s1
      rw [s2, t2, n1 t t1, n1 s s1]
    · rw [n2 v q] at hne ⊢
      have := h2 v hv hne
      rw [nold _ (by rw [this]; exact hne)]; exact this
  · have isk : ∀ x, x < n → nm' x = (k : Nat) → ∃ s, s < p ∧ x = itn c s u := fun x hx z => by
      rcases inY x with q | q
      · exact q
      · rw [n2 x q] at z
        rcases h1 x hx with w | ⟨_, i, i1, i2⟩ <;> omega
    rcases inY x with ⟨s, s1, s2⟩ | q
    · obtain ⟨t, t1, t2⟩ := isk v hv (by rw [← he, s2]; exact n1 s s1)
      by_cases e : t ≤ s
      · exact ⟨s - t, by omega, by rw [t2, ← itn_add, show s - t + t = s by omega, s2]⟩
      · exact ⟨s + (p - t), by omega, by rw [t2, ← itn_add, show s + (p - t) + t = s + p by omega, itn_add, hp, s2]⟩
    · rw [n2 x q] at hne he
      rcases inY v with ⟨t, t1, t2⟩ | q'
      · exfalso
        rw [t2, n1 t t1] at he
        rcases h1 x hx with w | ⟨_, i, i1, i2⟩ <;> omega
      · rw [n2 v q'] at he
        exact h3 x v hx hv hne he
  · by_cases e : i = k
    · exact ⟨u, (hY 0 hp0).1, by rw [e]; exact n1 0 hp0⟩
    · obtain ⟨v, v1, v2⟩ := h4 i (by omega)
      exact ⟨v, v1, by rw [nold v (by omega)]; exact v2⟩
  · by_cases e : v = a
    · obtain ⟨j, hj⟩ := hu
      exact ⟨j, Or.inr ⟨by rw [e, hj]; exact (hY 0 hp0).1, by rw [e, hj]; have : nm' u = (k : Nat) := n1 0 hp0; rw [this]; omega⟩⟩
    · obtain ⟨j, hj⟩ := h5 v (by omega)
      refine ⟨j, hj.imp_right (fun z => ⟨z.1, by rw [nold _ z.2]; exact z.2⟩)⟩
/-- what the model finds is what the class finds -/
theorem RGI.nr (ht : top < n) (hcn : ∀ v, v < n → v ≠ top → c v < n) (h : RGI n top c nm n k) : ∃ mk, NR n top c mk nm n k := by
  classical
  obtain ⟨h1, h2, h3, h4, h5, h6⟩ := h
  refine ⟨fun v => if v = top then -1 else 0, fun v hv => ?_, if_pos rfl, fun v hv hne => ?_, fun v hv hm => ?_, fun v hv => ?_, h2, h3, h4, ?_, h6⟩
  · show (if v = top then (-1 : Int) else 0) = -1 ∨ (0 ≤ (if v = top then (-1 : Int) else 0) ∧ (if v = top then (-1 : Int) else 0) < n)
    split
    · exact Or.inl rfl
    · exact Or.inr ⟨by omega, by omega⟩
  · show (if v = top then (-1 : Int) else 0) ≠ -1
    rw [if_neg hne]; omega
  · by_cases e : c v = top
    · exact Or.inl e
    · right
      show (if c v = top then (-1 : Int) else 0) ≠ -1
      rw [if_neg e]; omega
  · rcases h1 v hv with z | ⟨z1, z2⟩
    · exact Or.inl z
    · exact Or.inr ⟨by show (if v = top then (-1 : Int) else 0) ≠ -1; rw [if_neg z1]; omega, z2⟩
  · refine ⟨fun v => if hv : ∃ j, itn c j v = top ∨ (itn c j v < n ∧ nm (itn c j v) ≠ -1) then Classical.choose (least_ex hv) else 0, fun v hv hm hn => ?_⟩
    have hvt : v ≠ top := fun z => hm (by show (if v = top then (-1 : Int) else 0) = -1; rw [if_pos z])
    have e1 := h5 v hv
    have e2 := h5 (c v) (hcn v hv hvt)
    have s1 := Classical.choose_spec (least_ex e1)
    have s2 := Classical.choose_spec (least_ex e2)
    show (if hv : ∃ j, itn c j (c v) = top ∨ (itn c j (c v) < n ∧ nm (itn c j (c v)) ≠ -1) then Classical.choose (least_ex hv) else 0) < (if hv : ∃ j, itn c j v = top ∨ (itn c j v < n ∧ nm (itn c j v) ≠ -1) then Classical.choose (least_ex hv) else 0)
    rw [dif_pos e1, dif_pos e2]
    generalize Classical.choose (least_ex e1) = x1 at *
    generalize Classical.choose (least_ex e2) = x2 at *
    have x0 : x1 ≠ 0 := fun z => by
      rw [z] at s1
      rcases s1.1 with w | w
      · exact hvt w
      · exact w.2 hn
    obtain ⟨m, rfl⟩ : ∃ m, x1 = m + 1 := ⟨x1 - 1, by omega⟩
    apply Classical.byContradiction
    intro z
    exact s2.2 m (by omega) s1.1
end MRings
