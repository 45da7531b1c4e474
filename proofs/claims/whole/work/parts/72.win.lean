/-! ===== winners: the class' winnersOf ===== -/
def WB (S : Nat → Int → Prop) (k : Nat) (L b : Int) : Prop := (0 ≤ b ∧ b.toNat < 2 ^ 12) ∧ (∀ j, j < k → ∃ x, S j x ∧ L ≤ x) ∧ (∀ r, tbit b r ↔ r < k ∧ S r L) ∧ (k = 0 ∨ ∃ j, j < k ∧ S j L)
section Win
variable {S S' : Nat → Int → Prop} {k N : Nat} {L L' b b' : Int}
theorem WB.un (hf : ∀ j x y, S j x → S j y → x = y) (hN : 0 < N) (h : WB S N L b) (h' : WB S N L' b') : b = b' := by
  have half : ∀ {L L' b b' : Int}, WB S N L b → WB S N L' b' → L' ≤ L := fun h h' => by
    obtain ⟨j, j1, j2⟩ := h.2.2.2.resolve_left (by omega)
    obtain ⟨x, x1, x2⟩ := h'.2.1 j j1
    rw [hf j _ _ j2 x1]; exact x2
  have e : L = L' := by
    have := half h h'
    have := half h' h
    omega
  subst e
  exact bits_ext h.1.1 h'.1.1 (fun r => by rw [h.2.2.1 r, h'.2.2.1 r])
theorem WB.gt {x : Int} (hf : ∀ j x y, S j x → S j y → x = y) (h : WB S k L b) (hx : S k x) (hk : k ≠ 0) (hgt : L < x) : WB S (k + 1) L b := by
  refine ⟨h.1, fun j hj => ?_, fun r => ?_, Or.inr ?_⟩
  · by_cases e : j = k
    · rw [e]; exact ⟨x, hx, by omega⟩
    · exact h.2.1 j (by omega)
  · rw [h.2.2.1 r]
    refine ⟨fun z => ⟨by omega, z.2⟩, fun z => ⟨?_, z.2⟩⟩
    by_cases e : r = k
    · exfalso
      rw [e] at z
      have := hf k _ _ z.2 hx
      omega
    · omega
  · obtain ⟨j, j1, j2⟩ := h.2.2.2.resolve_left hk
    exact ⟨j, by omega, j2⟩
theorem WB.eq (hk : k < 12) (h : WB S k L b) (hx : S k L) : WB S (k + 1) L (sadd b k) := by
  refine ⟨sadd_bd h.1.2 hk, fun j hj => ?_, fun r => ?_, Or.inr ⟨k, by omega, hx⟩⟩
  · by_cases e : j = k
    · rw [e]; exact ⟨L, hx, by omega⟩
    · exact h.2.1 j (by omega)
  · rw [sadd_bit, h.2.2.1 r]
    refine ⟨fun z => ?_, fun z => ?_⟩
    · rcases z with z | z
      · exact ⟨by omega, z.2⟩
      · rw [z]; exact ⟨by omega, hx⟩
    · by_cases e : r = k
      · exact Or.inr e
      · exact Or.inl ⟨by omega, z.2⟩
theorem WB.lt {x : Int} (hk : k < 12) (h : WB S k L b) (hx : S k x) (hlt : x < L) (hf : ∀ j x y, S j x → S j y → x = y) : WB S (k + 1) x (sadd 0 k) := by
  refine ⟨sadd_bd (by show (0 : Nat) < 2 ^ 12; omega) hk, fun j hj => ?_, fun r => ?_, Or.inr ⟨k, by omega, hx⟩⟩
  · by_cases e : j = k
    · rw [e]; exact ⟨x, hx, by omega⟩
    · obtain ⟨y, y1, y2⟩ := h.2.1 j (by omega)
      exact ⟨y, y1, by omega⟩
  · rw [sadd_bit]
    refine ⟨fun z => ?_, fun z => ?_⟩
    · rcases z with z | z
      · exact absurd z (tbit_0 r)
      · rw [z]; exact ⟨by omega, hx⟩
    · by_cases e : r = k
      · exact Or.inr e
      · exfalso
        obtain ⟨y, y1, y2⟩ := h.2.1 r (by omega)
        have := hf r _ _ z.2 y1
        omega
/-- all go on to the root at once -/
theorem star {n r : Nat} {w : Nat → Nat → Int} {B x : Int} (hr : r < n) (hB : 0 ≤ B) (hw : ∀ a b, a < n → b < n → a ≠ b → 0 ≤ w a b ∧ w a b ≤ B) (h : MTS n r (fun _ _ => True) w x) : 0 ≤ x ∧ x ≤ n * B := by
  obtain ⟨⟨f, ⟨dp, hf⟩, f2⟩, f3⟩ := h
  have h1 := f3 (fun _ => r) ⟨fun v => if v = r then 0 else 1, fun v hv hne => ⟨hr, fun z => hne z.symm, trivial, by
    show (if r = r then 0 else 1) < (if v = r then 0 else 1)
    rw [if_pos rfl, if_neg hne]; omega⟩⟩
  have h2 : ts n r w (fun _ => r) ≤ n * B := by
    unfold ts
    exact (sm_bd hB (fun v hv => by
      show 0 ≤ (if v = r then 0 else w v r) ∧ (if v = r then 0 else w v r) ≤ B
      by_cases e : v = r
      · rw [if_pos e]; omega
      · rw [if_neg e]; exact hw v r hv hr e)).2
  have h3 : 0 ≤ ts n r w f := by
    unfold ts
    refine sm_nn (fun v hv => ?_)
    show 0 ≤ (if v = r then 0 else w v (f v))
    by_cases e : v = r
    · rw [if_pos e]; omega
    · rw [if_neg e]
      have := hf v hv e
      exact (hw v _ hv this.1 (fun z => this.2.1 z.symm)).1
  omega
end Win
