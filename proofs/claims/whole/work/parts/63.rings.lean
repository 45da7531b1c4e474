/-! ===== the class' Trees: nameRings ===== -/
def itn (c : Nat → Nat) : Nat → Nat → Nat
  | 0, v => v
  | k + 1, v => itn c k (c v)
theorem itn_s (c : Nat → Nat) : ∀ k v, itn c (k + 1) v = c (itn c k v) := by
  intro k
  induction k with
  | zero => intro v; rfl
  | succ k ih => intro v; rw [itn, ih (c v), ← itn]
theorem itn_add (c : Nat → Nat) (b : Nat) : ∀ a v, itn c (a + b) v = itn c a (itn c b v) := by
  intro a
  induction a with
  | zero => intro v; rw [Nat.zero_add]; rfl
  | succ a ih => intro v; rw [show a + 1 + b = a + b + 1 by omega, itn_s, itn_s, ih]
def NR (n top : Nat) (c : Nat → Nat) (mk nm : Nat → Int) (a k : Nat) : Prop := (∀ v, v < n → mk v = -1 ∨ (0 ≤ mk v ∧ mk v < a)) ∧ mk top = -1 ∧ (∀ v, v < a → v ≠ top → mk v ≠ -1) ∧ (∀ v, v < n → mk v ≠ -1 → c v = top ∨ mk (c v) ≠ -1) ∧ (∀ v, v < n → nm v = -1 ∨ (mk v ≠ -1 ∧ ∃ i : Nat, i < k ∧ nm v = i)) ∧ (∀ v, v < n → nm v ≠ -1 → nm (c v) = nm v) ∧ (∀ u v, u < n → v < n → nm u ≠ -1 → nm u = nm v → ∃ j, j ≤ n ∧ itn c j v = u) ∧ (∀ i : Nat, i < k → ∃ v, v < n ∧ nm v = i) ∧ (∃ dp : Nat → Nat, ∀ v, v < n → mk v ≠ -1 → nm v = -1 → dp (c v) < dp v) ∧ k ≤ a
def WK (n top : Nat) (c : Nat → Nat) (mk0 mk : Nat → Int) (a i : Nat) : Prop := (∀ l, l < i → itn c l a < n ∧ itn c l a ≠ top ∧ mk0 (itn c l a) = -1 ∧ mk (itn c l a) = a) ∧ (∀ l m, l < m → m < i → itn c l a ≠ itn c m a) ∧ (∀ v, (∀ l, l < i → v ≠ itn c l a) → mk v = mk0 v)
section Rings
variable {n top a k i : Nat} {c : Nat → Nat} {mk0 mk nm nm' : Nat → Int}
theorem WK.dp (h : WK n top c mk0 mk a i) (dp : Nat → Nat) : ∃ dq : Nat → Nat, (∀ l, l < i → dq (itn c l a) = dp (itn c i a) + 1 + (i - l)) ∧ ∀ v, (∀ l, l < i → v ≠ itn c l a) → dq v = dp v := by
  classical
  refine ⟨fun v => if hv : ∃ l, l < i ∧ v = itn c l a then dp (itn c i a) + 1 + (i - Classical.choose hv) else dp v, fun l hl => ?_, fun v hv => ?_⟩
  · have hex : ∃ m, m < i ∧ itn c l a = itn c m a := ⟨l, hl, rfl⟩
    show (if hv : ∃ m, m < i ∧ itn c l a = itn c m a then dp (itn c i a) + 1 + (i - Classical.choose hv) else dp (itn c l a)) = _
    rw [dif_pos hex]
    have hs := Classical.choose_spec hex
    have : Classical.choose hex = l := by
      rcases Nat.lt_trichotomy (Classical.choose hex) l with z | z | z
      · exact absurd hs.2.symm (h.2.1 _ _ z hl)
      · exact z
      · exact absurd hs.2 (h.2.1 _ _ z hs.1)
    rw [this]
  · show (if hv : ∃ m, m < i ∧ v = itn c m a then dp (itn c i a) + 1 + (i - Classical.choose hv) else dp v) = _
    rw [dif_neg (fun ⟨l, l1, l2⟩ => hv l l1 l2)]
/-- a walk that ends at the root or where one has been -/
theorem NR.walk (hcn : ∀ v, v < n → v ≠ top → c v < n) (ha : a < n) (h : NR n top c mk0 nm a k) (hw : WK n top c mk0 mk a i) (hlast : itn c i a = top ∨ (itn c i a < n ∧ mk (itn c i a) ≠ -1 ∧ mk (itn c i a) ≠ a)) : NR n top c mk nm (a + 1) k := by
  obtain ⟨h1, h2, h3, h4, h5, h6, h7, h8, ⟨dp, h9⟩, h10⟩ := h
  obtain ⟨w1, w2, w3⟩ := id hw
  have inY : ∀ v, (∃ l, l < i ∧ v = itn c l a) ∨ (∀ l, l < i → v ≠ itn c l a) := fun v => by
    by_cases q : ∃ l, l < i ∧ v = itn c l a
    · exact Or.inl q
    · exact Or.inr (fun l hl z => q ⟨l, hl, z⟩)
  have old : ∀ v, mk0 v ≠ -1 → mk v = mk0 v := fun v hv => w3 v (fun l hl z => hv (by rw [z]; exact (w1 l hl).2.2.1))
  have otop : mk top = -1 := by rw [w3 top (fun l hl z => (w1 l hl).2.1 z.symm)]; exact h2
  have lastOld : itn c i a = top ∨ mk0 (itn c i a) ≠ -1 := by
    rcases hlast with z | ⟨z1, z2, z3⟩
    · exact Or.inl z
    · rcases inY (itn c i a) with ⟨l, l1, l2⟩ | q
      · exact absurd (by rw [l2]; exact (w1 l l1).2.2.2) z3
      · right; rw [← w3 _ q]; exact z2
  have lastN : ∀ l, l < i → itn c i a ≠ itn c l a := fun l hl z => by
    rcases lastOld with q | q
    · exact (w1 l hl).2.1 (by rw [← z]; exact q)
    · exact q (by rw [z]; exact (w1 l hl).2.2.1)
  obtain ⟨dq, d1, d2⟩ := hw.dp dp
  refine ⟨fun v hv => ?_, otop, fun v hv hvt => ?_, fun v hv hm => ?_, fun v hv => ?_, h6, h7, h8, ⟨dq, fun v hv hm hnm => ?_⟩, by omega⟩
  · rcases inY v with ⟨l, l1, l2⟩ | q
    · rw [l2, (w1 l l1).2.2.2]; right; push_cast; omega
    · rw [w3 v q]
      rcases h1 v hv with z | z
      · exact Or.inl z
      · right; push_cast; omega
  · by_cases e : v = a
    · by_cases i0 : i = 0
      · subst i0
        rcases hlast with z | ⟨z1, z2, z3⟩
        · exact absurd (by rw [e]; exact z) hvt
        · rw [e]; exact z2
      · have := (w1 0 (by omega)).2.2.2
        rw [e]
        show mk (itn c 0 a) ≠ -1
        rw [this]; omega
    · have := h3 v (by omega) hvt
      rw [old v this]; exact this
  · rcases inY v with ⟨l, l1, l2⟩ | q
    · by_cases e : l + 1 = i
      · have ec : c v = itn c i a := by rw [l2, ← itn_s c l a, e]
        rw [ec]
        rcases lastOld with z | z
        · exact Or.inl z
        · right; rw [old _ z]; exact z
      · have ec : c v = itn c (l + 1) a := by rw [l2, ← itn_s c l a]
        right
        rw [ec, (w1 (l + 1) (by omega)).2.2.2]; omega
    · rw [w3 v q] at hm
      rcases h4 v hv hm with z | z
      · exact Or.inl z
      · right; rw [old _ z]; exact z
  · rcases h5 v hv with z | ⟨z1, z2⟩
    · exact Or.inl z
    · exact Or.inr ⟨by rw [old v z1]; exact z1, z2⟩
  · rcases inY v with ⟨l, l1, l2⟩ | q
    · rw [l2, d1 l l1, ← itn_s c l a]
      by_cases e : l + 1 = i
      · rw [e, d2 _ lastN]; omega
      · rw [d1 (l + 1) (by omega)]; omega
    · rw [w3 v q] at hm
      rw [d2 v q]
      have := h9 v hv hm hnm
      have hcv : ∀ l, l < i → c v ≠ itn c l a := fun l hl z => by
        rcases h4 v hv hm with w | w
        · exact (w1 l hl).2.1 (by rw [← z]; exact w)
        · exact w (by rw [z]; exact (w1 l hl).2.2.1)
      rw [d2 _ hcv]; exact this
/-- a walk that ends in itself: a ring -/
theorem NR.ring {l0 : Nat} (hcn : ∀ v, v < n → v ≠ top → c v < n) (ha : a < n) (h : NR n top c mk0 nm a k) (hw : WK n top c mk0 mk a i) (hin : i ≤ n) (hl0 : l0 < i) (hring : itn c i a = itn c l0 a) (n1 : ∀ l, l0 ≤ l → l < i → nm' (itn c l a) = (k : Nat)) (n2 : ∀ v, (∀ l, l0 ≤ l → l < i → v ≠ itn c l a) → nm' v = nm v) : NR n top c mk nm' (a + 1) (k + 1) := by
  obtain ⟨h1, h2, h3, h4, h5, h6, h7, h8, ⟨dp, h9⟩, h10⟩ := h
  obtain ⟨w1, w2, w3⟩ := id hw
  have inY : ∀ v, (∃ l, l < i ∧ v = itn c l a) ∨ (∀ l, l < i → v ≠ itn c l a) := fun v => by
    by_cases q : ∃ l, l < i ∧ v = itn c l a
    · exact Or.inl q
    · exact Or.inr (fun l hl z => q ⟨l, hl, z⟩)
  have inR : ∀ v, (∃ l, l0 ≤ l ∧ l < i ∧ v = itn c l a) ∨ (∀ l, l0 ≤ l → l < i → v ≠ itn c l a) := fun v => by
    by_cases q : ∃ l, l0 ≤ l ∧ l < i ∧ v = itn c l a
    · exact Or.inl q
    · exact Or.inr (fun l hl hl' z => q ⟨l, hl, hl', z⟩)
  have old : ∀ v, mk0 v ≠ -1 → mk v = mk0 v := fun v hv => w3 v (fun l hl z => hv (by rw [z]; exact (w1 l hl).2.2.1))
  have otop : mk top = -1 := by rw [w3 top (fun l hl z => (w1 l hl).2.1 z.symm)]; exact h2
  have nmY : ∀ l, l < i → nm (itn c l a) = -1 := fun l hl => by
    rcases h5 _ (w1 l hl).1 with z | z
    · exact z
    · exact absurd (w1 l hl).2.2.1 z.1
  -- what bears a name of old
  have nold : ∀ v, nm v ≠ -1 → nm' v = nm v := fun v hv => n2 v (fun l _ hl z => hv (by rw [z]; exact nmY l hl))
  have nxt : ∀ l, l0 ≤ l → l < i → ∃ m, l0 ≤ m ∧ m < i ∧ c (itn c l a) = itn c m a := fun l h1 h2 => by
    rw [← itn_s c l a]
    by_cases e : l + 1 = i
    · exact ⟨l0, Nat.le_refl _, hl0, by rw [e, hring]⟩
    · exact ⟨l + 1, by omega, by omega, rfl⟩
  obtain ⟨dq, d1, d2⟩ := hw.dp dp
  refine ⟨fun v hv => ?_, otop, fun v hv hvt => ?_, fun v hv hm => ?_, fun v hv => ?_, fun v hv hne => ?_, fun u v hu hv hne he => ?_, fun j hj => ?_, ⟨dq, fun v hv hm hnm => ?_⟩, by omega⟩
  · rcases inY v with ⟨l, l1, l2⟩ | q
    · rw [l2, (w1 l l1).2.2.2]; right; push_cast; omega
    · rw [w3 v q]
      rcases h1 v hv with z | z
      · exact Or.inl z
      · right; push_cast; omega
  · by_cases e : v = a
    · have := (w1 0 (by omega)).2.2.2
      rw [e]
      show mk (itn c 0 a) ≠ -1
      rw [this]; omega
    · have := h3 v (by omega) hvt
      rw [old v this]; exact this
  · rcases inY v with ⟨l, l1, l2⟩ | q
    · right
      by_cases e : l + 1 = i
      · have ec : c v = itn c l0 a := by rw [l2, ← itn_s c l a, e, hring]
        rw [ec, (w1 l0 hl0).2.2.2]; omega
      · have ec : c v = itn c (l + 1) a := by rw [l2, ← itn_s c l a]
        rw [ec, (w1 (l + 1) (by omega)).2.2.2]; omega
    · rw [w3 v q] at hm
      rcases h4 v hv hm with z | z
      · exact Or.inl z
      · right; rw [old _ z]; exact z
  · rcases inR v with ⟨l, l1, l2, l3⟩ | q
    · right
      rw [l3, n1 l l1 l2, (w1 l l2).2.2.2]
      exact ⟨by omega, k, by omega, rfl⟩
    · rw [n2 v q]
      rcases h5 v hv with z | ⟨z1, j, j1, j2⟩
      · exact Or.inl z
      · exact Or.inr ⟨by rw [old v z1]; exact z1, j, by omega, j2⟩
  · rcases inR v with ⟨l, l1, l2, l3⟩ | q
    · obtain ⟨m, m1, m2, m3⟩ := nxt l l1 l2
      rw [l3, m3, n1 m m1 m2, n1 l l1 l2]
    · rw [n2 v q] at hne ⊢
      have := h6 v hv hne
      rw [nold _ (by rw [this]; exact hne)]; exact this
  · have isk : ∀ x, x < n → nm' x = (k : Nat) → ∃ l, l0 ≤ l ∧ l < i ∧ x = itn c l a := fun x hx z => by
      rcases inR x with q | q
      · exact q
      · rw [n2 x q] at z
        rcases h5 x hx with w | ⟨_, j, j1, j2⟩
        · omega
        · omega
    rcases inR u with ⟨l, l1, l2, l3⟩ | q
    · have hu' : nm' u = (k : Nat) := by rw [l3]; exact n1 l l1 l2
      obtain ⟨m, m1, m2, m3⟩ := isk v hv (by rw [← he]; exact hu')
      by_cases e : m ≤ l
      · refine ⟨l - m, by omega, ?_⟩
        rw [m3, ← itn_add, show l - m + m = l by omega, l3]
      · refine ⟨(l - l0) + (i - m), by omega, ?_⟩
        rw [m3, ← itn_add, show l - l0 + (i - m) + m = (l - l0) + i by omega, itn_add, hring, ← itn_add, show l - l0 + l0 = l by omega, l3]
    · rw [n2 u q] at hne he
      rcases inR v with ⟨m, m1, m2, m3⟩ | q'
      · exfalso
        rw [m3, n1 m m1 m2] at he
        rcases h5 u hu with w | ⟨_, j, j1, j2⟩
        · omega
        · omega
      · rw [n2 v q'] at he
        exact h7 u v hu hv hne he
  · by_cases e : j = k
    · exact ⟨itn c l0 a, (w1 l0 hl0).1, by rw [n1 l0 (Nat.le_refl _) hl0, e]⟩
    · obtain ⟨v, v1, v2⟩ := h8 j (by omega)
      exact ⟨v, v1, by rw [nold v (by omega)]; exact v2⟩
  · rcases inR v with ⟨l, l1, l2, l3⟩ | q
    · rw [l3, n1 l l1 l2] at hnm; omega
    · rw [n2 v q] at hnm
      rcases inY v with ⟨l, l1, l2⟩ | q'
      · have ll : l < l0 := Classical.byContradiction (fun z => q l (by omega) l1 l2)
        rw [l2, d1 l l1, ← itn_s c l a, d1 (l + 1) (by omega)]; omega
      · rw [w3 v q'] at hm
        rw [d2 v q']
        have := h9 v hv hm hnm
        have hcv : ∀ l, l < i → c v ≠ itn c l a := fun l hl z => by
          rcases h4 v hv hm with w | w
          · exact (w1 l hl).2.1 (by rw [← z]; exact w)
          · exact w (by rw [z]; exact (w1 l hl).2.2.1)
        rw [d2 _ hcv]; exact this
end Rings
