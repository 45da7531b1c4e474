/-! ===== for valley: the class' clear, meetAll, forget ===== -/
def mAll (n p : Int) : Int := band (shl 1 n - 1) (bxor (shl 1 p) (-1))
theorem mAll_all : ∀ n : Fin 11, ∀ p : Fin 10, 0 ≤ mAll ((n.val : Nat) : Int) ((p.val : Nat) : Int) ∧ mAll ((n.val : Nat) : Int) ((p.val : Nat) : Int) < 1024 := by decide +kernel
theorem mAll_bd {n p : Int} (h0 : 0 ≤ n) (h1 : n ≤ 10) (h2 : 0 ≤ p) (h3 : p < 10) : 0 ≤ mAll n p ∧ mAll n p < 1024 := by
  have := mAll_all ⟨n.toNat, by omega⟩ ⟨p.toNat, by omega⟩
  simp only [] at this
  rw [show ((n.toNat : Nat) : Int) = n by omega, show ((p.toNat : Nat) : Int) = p by omega] at this
  exact this
section Plain
variable {σ : St} {Q : Res → St → Prop} {i : Nat}
def clP (i : Nat) (c i' k : Nat) : Prop := i' = i ∧ ((c = 10 ∧ k ≤ 4) ∨ (54 ≤ c ∧ c ≤ 57))
theorem c_clear (h : ∀ τ, FR (clP i) σ τ → (τ 10 i 0 = 4 ∧ τ 10 i 1 = 2 ∧ τ 10 i 2 = 0 ∧ τ 10 i 3 = 0 ∧ τ 10 i 4 = 0) → (∀ j, j < 16 → τ 54 i j = if j % 5 = 0 then 1 else 0) → (∀ j, j < 4 → τ 55 i j = 1) → (∀ j, j < 10 → τ 56 i j = 0) → (∀ j, j < 10 → τ 57 i j = -1) → Q (.inl none) τ) : WP mX9_clear 0 [vR 10 i, vU] [] σ Q := by
  refine b_X9_clear_0 (c_fill (by omega) rfl rfl (by omega) rfl ?_)
  show WP mX9_clear 33 [vR 10 i, vU] [] _ Q
  have F0 : FR (clP i) σ (upR (up (up (up (up (up σ 10 i 0 4) 10 i 1 2) 10 i 2 0) 10 i 3 0) 10 i 4 0) 54 i 0 (al 54) (fun _ => 0)) := (((((FR.rf.u (by unfold clP; omega)).u (by unfold clP; omega)).u (by unfold clP; omega)).u (by unfold clP; omega)).u (by unfold clP; omega)).uR (fun k _ _ => by unfold clP; omega)
  have e10 : ∀ k, k ≤ 4 → (upR (up (up (up (up (up σ 10 i 0 4) 10 i 1 2) 10 i 2 0) 10 i 3 0) 10 i 4 0) 54 i 0 (al 54) (fun _ => 0)) 10 i k = if k = 0 then 4 else if k = 1 then 2 else 0 := fun k hk => by
    have : k = 0 ∨ k = 1 ∨ k = 2 ∨ k = 3 ∨ k = 4 := by omega
    rcases this with e | e | e | e | e <;> (subst e; simp [up, upR])
  have e54 : ∀ k, k < 16 → (upR (up (up (up (up (up σ 10 i 0 4) 10 i 1 2) 10 i 2 0) 10 i 3 0) 10 i 4 0) 54 i 0 (al 54) (fun _ => 0)) 54 i k = 0 := fun k hk => by
    unfold upR
    rw [if_pos ⟨rfl, rfl, by omega, by show k < 0 + 16; omega⟩]
  generalize (upR (up (up (up (up (up σ 10 i 0 4) 10 i 1 2) 10 i 2 0) 10 i 3 0) 10 i 4 0) 54 i 0 (al 54) (fun _ => 0)) = τ0 at *
  refine b_X9_clear_33 ?_
  have key : ∀ r y : Nat, r + y = 4 → ∀ τ, FR (fun c i' _ => c = 54 ∧ i' = i) τ0 τ → (∀ j, j < 16 → τ 54 i j = if j % 5 = 0 ∧ j < 5 * y then 1 else 0) → WP mX9_clear 35 [vR 10 i, vI (y : Int)] [] τ Q := by
    intro r
    induction r with
    | zero =>
      intro y hy τ f1 h54
      refine b_X9_clear_35 ⟨fun _ => c_fill (by omega) rfl rfl (by omega) rfl ?_, fun z => by omega⟩
      show WP mX9_clear 65 [vR 10 i, vU] [] _ Q
      refine b_X9_clear_65 (c_fill (by omega) rfl rfl (by omega) rfl ?_)
      show WP mX9_clear 73 [vR 10 i, vU] [] _ Q
      refine b_X9_clear_73 (c_fill (by omega) rfl rfl (by omega) rfl ?_)
      have g10 : ∀ k, τ 10 i k = τ0 10 i k := fun k => f1 10 i k (fun z => by omega)
      refine b_X9_clear_81 (h _ ((((F0.tr (f1.wk (fun c i' k z => by unfold clP; omega))).uR (fun k _ _ => by unfold clP; omega)).uR (fun k _ _ => by unfold clP; omega)).uR (fun k _ _ => by unfold clP; omega)) ⟨?_, ?_, ?_, ?_, ?_⟩ (fun j hj => ?_) (fun j hj => ?_) (fun j hj => ?_) (fun j hj => ?_))
      · have := e10 0 (by omega); rw [← g10, if_pos rfl] at this; simp [upR, this]
      · have := e10 1 (by omega); rw [← g10, if_neg (by omega), if_pos rfl] at this; simp [upR, this]
      · have := e10 2 (by omega); rw [← g10, if_neg (by omega), if_neg (by omega)] at this; simp [upR, this]
      · have := e10 3 (by omega); rw [← g10, if_neg (by omega), if_neg (by omega)] at this; simp [upR, this]
      · have := e10 4 (by omega); rw [← g10, if_neg (by omega), if_neg (by omega)] at this; simp [upR, this]
      · have := h54 j hj
        have e : (if j % 5 = 0 ∧ j < 5 * y then (1 : Int) else 0) = if j % 5 = 0 then 1 else 0 := by
          by_cases q : j % 5 = 0
          · rw [if_pos ⟨q, by omega⟩, if_pos q]
          · rw [if_neg (fun z => q z.1), if_neg q]
        rw [e] at this
        rw [← this]
        simp [upR]
      · simp [upR, hj, al]
      · simp [upR, hj, al]
      · simp [upR, hj, al]
    | succ r ih =>
      intro y hy τ f1 h54
      refine b_X9_clear_35 ⟨fun z => by omega, fun _ => ⟨by unfold in32; omega, by unfold in32; omega, by omega, by unfold in32; omega, ?_⟩⟩
      rw [show ((y : Int) * 4 + (y : Int)).toNat = 5 * y by omega]
      refine ih (y + 1) (by omega) _ (f1.u ⟨rfl, rfl⟩) (fun j hj => ?_)
      by_cases e : j = 5 * y
      · rw [e, up_s, if_pos ⟨by omega, by omega⟩]
      · rw [up_j e, h54 j hj]
        by_cases q : j % 5 = 0 ∧ j < 5 * y
        · rw [if_pos q, if_pos ⟨q.1, by omega⟩]
        · rw [if_neg q, if_neg (fun z => q ⟨z.1, by omega⟩)]
  exact key 4 0 (by omega) τ0 FR.rf (fun j hj => by rw [if_neg (fun z => by omega)]; exact e54 j hj)
theorem c_meetAll {n : Nat} (hn : σ 10 i 0 = n) (hn2 : 2 ≤ n) (hn10 : n ≤ 10) (h : ∀ τ, FR (fun c i' _ => c = 56 ∧ i' = i) σ τ → (∀ p, p < 10 → τ 56 i p = if p < n then mAll n p else σ 56 i p) → Q (.inl none) τ) : WP mX9_meetAll 0 [vR 10 i, vU] [] σ Q := by
  refine b_X9_meetAll_0 ?_
  have hs := shl1 (q := (n : Int)) (by omega) (by omega)
  have e2 : ((2 : Int) ^ (n : Int).toNat) = ((2 ^ n : Nat) : Int) := by rw [Int.toNat_natCast]; push_cast; rfl
  have hp : 2 ^ n ≤ 2 ^ 10 := Nat.pow_le_pow_right (by omega) hn10
  have hp0 : 0 < 2 ^ n := Nat.pow_pos (by omega)
  have key : ∀ r p : Nat, r + p = n → ∀ τ, FR (fun c i' _ => c = 56 ∧ i' = i) σ τ → (∀ q, q < 10 → τ 56 i q = if q < p then mAll n q else σ 56 i q) → WP mX9_meetAll 2 [vR 10 i, vI (p : Int)] [] τ Q := by
    intro r
    have e0 : ∀ τ, FR (fun c i' _ => c = 56 ∧ i' = i) σ τ → τ 10 i 0 = n := fun τ f => by rw [f 10 i 0 (fun z => by omega)]; exact hn
    induction r with
    | zero =>
      intro p hp' τ f1 h1
      have : p = n := by omega
      subst this
      exact b_X9_meetAll_2 ⟨fun _ => h τ f1 h1, fun z => by rw [e0 τ f1] at z; omega⟩
    | succ r ih =>
      intro p hp' τ f1 h1
      refine b_X9_meetAll_2 ?_
      rw [e0 τ f1, Int.toNat_natCast]
      refine ⟨fun z => by omega, fun _ => ⟨by rw [hs, e2]; unfold in32; omega, by omega, by unfold in32; omega, ih (p + 1) (by omega) _ (f1.u ⟨rfl, rfl⟩) (fun q hq => ?_)⟩⟩
      by_cases e : q = p
      · rw [e, up_s, if_pos (by omega)]; rfl
      · rw [up_j e, h1 q hq]
        by_cases e2 : q < p
        · rw [if_pos e2, if_pos (by omega)]
        · rw [if_neg e2, if_neg (by omega)]
  exact key n 0 (by omega) σ FR.rf (fun q hq => by rw [if_neg (by omega)])
def fgP (c i k : Nat) : Prop := i = 0 ∧ ((c = 12 ∧ (14 ≤ k ∧ k ≤ 17)) ∨ c = 64 ∨ c = 65 ∨ (c = 9 ∧ k = 0) ∨ (c = 1 ∧ k = 0) ∨ (c = 11 ∧ k = 0))
theorem c_forget (h : ∀ τ, FR fgP σ τ → (τ 12 0 14 = -1 ∧ τ 12 0 15 = -1 ∧ τ 12 0 16 = -9 ∧ τ 12 0 17 = -9) → (∀ k, k < 4 → τ 64 0 k = -9 ∧ τ 65 0 k = -9) → τ 9 0 0 = 0 → τ 1 0 0 = 0 → τ 11 0 0 = 0 → Q (.inl none) τ) : WP mX11_forget 0 [vR 12 0] [] σ Q := by
  refine b_X11_forget_0 (c_fill (by omega) rfl rfl (by omega) rfl ?_)
  show WP mX11_forget 31 [vR 12 0] [] _ Q
  refine b_X11_forget_31 (c_fill (by omega) rfl rfl (by omega) rfl ?_)
  show WP mX11_forget 40 [vR 12 0] [] _ Q
  refine b_X11_forget_40 (h _ (((((((((FR.rf.u (by unfold fgP; omega)).u (by unfold fgP; omega)).u (by unfold fgP; omega)).u (by unfold fgP; omega)).uR (fun k _ _ => by unfold fgP; omega)).uR (fun k _ _ => by unfold fgP; omega)).u (by unfold fgP; omega)).u (by unfold fgP; omega)).u (by unfold fgP; omega)) ⟨?_, ?_, ?_, ?_⟩ (fun k hk => ⟨?_, ?_⟩) ?_ ?_ ?_)
  · simp [up, upR]
  · simp [up, upR]
  · simp [up, upR]
  · simp [up, upR]
  · simp [up, upR, hk, al]
  · simp [up, upR, hk, al]
  · simp [up, upR]
  · simp [up, upR]
  · simp [up, upR]
end Plain
