/-! ===== digits ===== -/
def dg (H s p : Nat) : Nat := s / H ^ p % H
def wiN (H s p h : Nat) : Nat := (s / H ^ p / H * H + h) * H ^ p + s % H ^ p
theorem cb_div {c P b : Nat} (h : b < P) : (c * P + b) / P = c := by
  rw [Nat.add_comm, Nat.add_mul_div_right _ _ (by omega), Nat.div_eq_of_lt h, Nat.zero_add]
theorem cb_mod {c P b : Nat} (h : b < P) : (c * P + b) % P = b := by
  rw [Nat.add_comm, Nat.add_mul_mod_self_right, Nat.mod_eq_of_lt h]
theorem hd_div {H a h : Nat} (hh : h < H) : (a * H + h) / H = a := cb_div hh
theorem hd_mod {H a h : Nat} (hh : h < H) : (a * H + h) % H = h := cb_mod hh
theorem dg_lt {H : Nat} (hH : 0 < H) (s p : Nat) : dg H s p < H := Nat.mod_lt _ hH
theorem wiN_self {H : Nat} (hH : 0 < H) (s p : Nat) : wiN H s p (dg H s p) = s := by
  unfold wiN dg
  rw [Nat.div_add_mod' (s / H ^ p) H, Nat.div_add_mod' s (H ^ p)]
theorem wiN_div {H : Nat} (hH : 0 < H) (s p h : Nat) : wiN H s p h / H ^ p = s / H ^ p / H * H + h := cb_div (Nat.mod_lt _ (Nat.pow_pos hH))
theorem wiN_mod {H : Nat} (hH : 0 < H) (s p h : Nat) : wiN H s p h % H ^ p = s % H ^ p := cb_mod (Nat.mod_lt _ (Nat.pow_pos hH))
theorem dg_wi_same {H s p h : Nat} (hh : h < H) : dg H (wiN H s p h) p = h := by
  unfold dg
  rw [wiN_div (by omega), hd_mod hh]
theorem dg_wi_gt {H s p q h : Nat} (hh : h < H) (hq : p < q) : dg H (wiN H s p h) q = dg H s q := by
  obtain ⟨r, rfl⟩ : ∃ r, q = p + 1 + r := ⟨q - p - 1, by omega⟩
  unfold dg
  rw [Nat.pow_add, Nat.pow_succ, ← Nat.div_div_eq_div_mul, ← Nat.div_div_eq_div_mul, wiN_div (by omega), hd_div hh, ← Nat.div_div_eq_div_mul, ← Nat.div_div_eq_div_mul]
theorem dg_wi_lt {H s p q h : Nat} (hh : h < H) (hq : q < p) : dg H (wiN H s p h) q = dg H s q := by
  obtain ⟨r, rfl⟩ : ∃ r, p = q + 1 + r := ⟨p - q - 1, by omega⟩
  have key : ∀ x : Nat, dg H x q = x % H ^ (q + 1 + r) % (H ^ q * H) / H ^ q := by
    intro x
    unfold dg
    rw [← Nat.mod_mul_right_div_self, Nat.mod_mod_of_dvd]
    exact ⟨H ^ r, by rw [Nat.pow_add, Nat.pow_succ]⟩
  rw [key, key, wiN_mod (by omega)]
theorem dg_wi_ne {H s p q h : Nat} (hh : h < H) (hq : q ≠ p) : dg H (wiN H s p h) q = dg H s q := by
  rcases Nat.lt_or_gt_of_ne hq with g | g
  · exact dg_wi_lt hh g
  · exact dg_wi_gt hh g
theorem wi_lt {H s p h n : Nat} (hh : h < H) (hs : s < H ^ n) (hp : p < n) : wiN H s p h < H ^ n := by
  obtain ⟨r, rfl⟩ : ∃ r, n = p + 1 + r := ⟨n - p - 1, by omega⟩
  have h1 : s / H ^ p / H < H ^ r := by
    rw [Nat.div_div_eq_div_mul]
    apply Nat.div_lt_of_lt_mul
    rw [← Nat.pow_succ, ← Nat.pow_add]
    exact hs
  have hP : 0 < H ^ p := Nat.pow_pos (by omega)
  have h2 : s % H ^ p < H ^ p := Nat.mod_lt _ hP
  have e : H ^ (p + 1 + r) = H ^ r * H * H ^ p := by
    rw [Nat.pow_add, Nat.pow_succ, Nat.mul_comm (H ^ p * H), Nat.mul_comm (H ^ p) H, Nat.mul_assoc]
  rw [e]
  unfold wiN
  have h3 : s / H ^ p / H * H + h + 1 ≤ H ^ r * H := by
    have : (s / H ^ p / H + 1) * H ≤ H ^ r * H := Nat.mul_le_mul_right _ h1
    rw [Nat.add_mul, Nat.one_mul] at this
    omega
  have h4 : (s / H ^ p / H * H + h + 1) * H ^ p ≤ H ^ r * H * H ^ p := Nat.mul_le_mul_right _ h3
  rw [Nat.add_mul _ 1, Nat.one_mul] at h4
  omega
theorem dg_ext {H : Nat} (hH : 0 < H) : ∀ (n s t : Nat), s < H ^ n → t < H ^ n → (∀ p, p < n → dg H s p = dg H t p) → s = t := by
  intro n
  induction n with
  | zero => intro s t hs ht _; rw [Nat.pow_zero] at hs ht; omega
  | succ n ih =>
    intro s t hs ht h
    have e1 : s / H = t / H := by
      apply ih
      · apply Nat.div_lt_of_lt_mul; rw [Nat.mul_comm, ← Nat.pow_succ]; exact hs
      · apply Nat.div_lt_of_lt_mul; rw [Nat.mul_comm, ← Nat.pow_succ]; exact ht
      · intro p hp
        have := h (p + 1) (by omega)
        unfold dg at this ⊢
        rw [Nat.pow_succ, Nat.mul_comm, ← Nat.div_div_eq_div_mul, ← Nat.div_div_eq_div_mul] at this
        exact this
    have e2 : s % H = t % H := by
      have := h 0 (by omega)
      unfold dg at this
      rw [Nat.pow_zero, Nat.div_one, Nat.div_one] at this
      exact this
    rw [← Nat.div_add_mod s H, ← Nat.div_add_mod t H, e1, e2]
