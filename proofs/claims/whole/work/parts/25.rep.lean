/-! ===== Replies: the ANSWERS as the class finds them ===== -/
theorem wor_lik {V : Vy} (hV : VOK V) (s : Int) (p : Nat) (h : Int) : wor V s p h = sm (fun j => lik V s p j * ge V (4 * h + j).toNat) (ha V).toNat := by
  have hb := hab_bd hV s
  have e1 : ∀ q : Nat, (if tbit (me V p) q then ge V (4 * h + hab V s q).toNat else 0) = sm (fun j : Nat => (if tbit (me V p) q = true ∧ hab V s q = (j : Int) then (1 : Int) else 0) * ge V (4 * h + (j : Int)).toNat) (ha V).toNat := by
    intro q
    have hbq := hb q
    by_cases ht : tbit (me V p) q = true
    · rw [sm_one (k := (hab V s q).toNat) (by omega) (fun j hj hne => by rw [if_neg (fun z => hne (by omega))]; simp)]
      simp only [ht, if_true]
      rw [if_pos ⟨trivial, by omega⟩, Int.one_mul, show ((hab V s q).toNat : Int) = hab V s q by omega]
    · have : (fun j : Nat => (if tbit (me V p) q = true ∧ hab V s q = (j : Int) then (1 : Int) else 0) * ge V (4 * h + (j : Int)).toNat) = fun _ => 0 := by
        funext j
        rw [if_neg (fun z => ht z.1)]
        simp
      rw [this, sm_0]
      simp [ht]
  unfold wor
  rw [sm_congr (fun q _ => e1 q), sm_swap]
  apply sm_congr
  intro j hj
  unfold lik
  rw [sm_mul]
theorem lik_bd {V : Vy} (hV : VOK V) (s : Int) (p : Nat) (h : Int) : 0 ≤ lik V s p h ∧ lik V s p h ≤ 10 := by
  have := sm_bd (f := fun q => if tbit (me V p) q = true ∧ hab V s q = h then (1 : Int) else 0) (b := 1) (by omega) (n := (pe V).toNat) (fun k _ => by
    show 0 ≤ (if tbit (me V p) k = true ∧ hab V s k = h then (1 : Int) else 0) ∧ (if tbit (me V p) k = true ∧ hab V s k = h then (1 : Int) else 0) ≤ 1
    split <;> omega)
  have h2 := hV.pe
  unfold lik
  omega
theorem wor_bd {V : Vy} (hV : VOK V) (s : Int) (p : Nat) {h : Int} (h0 : 0 ≤ h) (h1 : h < 4) : 0 ≤ wor V s p h ∧ wor V s p h ≤ 1980 := by
  have hb := hab_bd hV s
  have hh := hV.ha
  have := sm_bd (f := fun q => if tbit (me V p) q then ge V (4 * h + hab V s q).toNat else 0) (b := 198) (by omega) (n := (pe V).toNat) (fun k _ => by
    have hbk := hb k
    have := hV.ge (4 * h + hab V s k).toNat (by omega)
    by_cases ht : tbit (me V p) k = true
    · simp only [ht, if_true]; exact this
    · simp [ht])
  have h2 := hV.pe
  unfold wor
  omega
/-- the greatest of a set of persons, and the HABITS of those who have it -/
def MX (N : Nat → Prop) (w : Nat → Int) (g : Nat → Nat) (m b : Int) : Prop := (∀ q, N q → w q ≤ m) ∧ (∀ h, tbit b h = true ↔ ∃ q, N q ∧ w q = m ∧ g q = h) ∧ (0 ≤ b ∧ b.toNat < 2 ^ 4) ∧ ((∃ q, N q ∧ w q = m) ∨ ((∀ q, ¬ N q) ∧ m = -1))
theorem MX.step {N N' : Nat → Prop} {w : Nat → Int} {g : Nat → Nat} {m b : Int} {q : Nat} (h : MX N w g m b) (hq : 0 ≤ w q) (hg : g q < 4) (hN : ∀ r, N' r ↔ N r ∨ r = q) : MX N' w g (if w q > m then w q else m) (if w q > m then sadd 0 (g q) else if w q = m then sadd b (g q) else b) := by
  obtain ⟨h1, h2, h3, h4⟩ := h
  by_cases c1 : w q > m
  · rw [if_pos c1, if_pos c1]
    refine ⟨fun r hr => ?_, fun x => ?_, sadd_bd (by simp) hg, Or.inl ⟨q, (hN q).mpr (Or.inr rfl), rfl⟩⟩
    · rcases (hN r).mp hr with z | z
      · have := h1 r z; omega
      · rw [z]; omega
    · rw [sadd_bit]
      constructor
      · rintro (z | z)
        · exact absurd z (tbit_0 x)
        · exact ⟨q, (hN q).mpr (Or.inr rfl), rfl, z.symm⟩
      · rintro ⟨r, r1, r2, r3⟩
        rcases (hN r).mp r1 with z | z
        · have := h1 r z; omega
        · right; rw [← r3, z]
  · rw [if_neg c1, if_neg c1]
    have c1' : w q ≤ m := by omega
    have h4' : ∃ q', N' q' ∧ w q' = m := by
      rcases h4 with ⟨r, r1, r2⟩ | ⟨r1, r2⟩
      · exact ⟨r, (hN r).mpr (Or.inl r1), r2⟩
      · omega
    by_cases c2 : w q = m
    · rw [if_pos c2]
      refine ⟨fun r hr => ?_, fun x => ?_, sadd_bd h3.2 hg, Or.inl h4'⟩
      · rcases (hN r).mp hr with z | z
        · exact h1 r z
        · rw [z]; omega
      · rw [sadd_bit, h2]
        constructor
        · rintro (⟨r, r1, r2, r3⟩ | z)
          · exact ⟨r, (hN r).mpr (Or.inl r1), r2, r3⟩
          · exact ⟨q, (hN q).mpr (Or.inr rfl), c2, z.symm⟩
        · rintro ⟨r, r1, r2, r3⟩
          rcases (hN r).mp r1 with z | z
          · exact Or.inl ⟨r, z, r2, r3⟩
          · right; rw [← r3, z]
    · rw [if_neg c2]
      refine ⟨fun r hr => ?_, fun x => ?_, h3, Or.inl h4'⟩
      · rcases (hN r).mp hr with z | z
        · exact h1 r z
        · rw [z]; omega
      · rw [h2]
        constructor
        · rintro ⟨r, r1, r2, r3⟩; exact ⟨r, (hN r).mpr (Or.inl r1), r2, r3⟩
        · rintro ⟨r, r1, r2, r3⟩
          rcases (hN r).mp r1 with z | z
          · exact ⟨r, z, r2, r3⟩
          · rw [z] at r2; exact absurd r2 c2
theorem MX.cg {N N' : Nat → Prop} {w : Nat → Int} {g : Nat → Nat} {m b : Int} (h : MX N w g m b) (hN : ∀ r, N' r ↔ N r) : MX N' w g m b := by
  have e : N' = N := by funext r; exact propext (hN r)
  rw [e]; exact h
theorem MX.uniq {N : Nat → Prop} {w : Nat → Int} {g : Nat → Nat} {m b m' b' : Int} (h : MX N w g m b) (h' : MX N w g m' b') (hN : ∃ q, N q) : m = m' ∧ b = b' := by
  obtain ⟨q0, hq0⟩ := hN
  obtain ⟨h1, h2, h3, h4⟩ := h
  obtain ⟨k1, k2, k3, k4⟩ := h'
  obtain ⟨r, r1, r2⟩ := h4.resolve_right (fun z => z.1 q0 hq0)
  obtain ⟨r', r1', r2'⟩ := k4.resolve_right (fun z => z.1 q0 hq0)
  have e : m = m' := by
    have a1 := k1 r r1
    have a2 := h1 r' r1'
    omega
  refine ⟨e, bits_ext h3.1 k3.1 (fun x => ?_)⟩
  rw [h2 x, k2 x, e]
theorem MX.nil {w : Nat → Int} {g : Nat → Nat} {N : Nat → Prop} (hN : ∀ q, ¬ N q) : MX N w g (-1) 0 := by
  refine ⟨fun q h => absurd h (hN q), fun x => ⟨fun z => absurd z (tbit_0 x), fun ⟨q, z, _⟩ => absurd z (hN q)⟩, ⟨by omega, by simp⟩, Or.inr ⟨hN, rfl⟩⟩
def wp_w (V : Vy) (s : Int) (q : Nat) : Int := wor V s q (hab V s q)
theorem wpw_nn {V : Vy} (hV : VOK V) (s : Int) (q : Nat) : 0 ≤ wp_w V s q := (wor_bd hV s q (hab_bd hV s q).1 (by have := (hab_bd hV s q).2; have := hV.ha; omega)).1
theorem habN_lt {V : Vy} (hV : VOK V) (s : Int) (q : Nat) : (hab V s q).toNat < 4 := by
  have := hab_bd hV s q
  have := hV.ha
  omega
theorem cp_mx {V : Vy} (hV : VOK V) (s : Int) (p : Nat) : ∀ n, MX (fun q => q < n ∧ (q = p ∨ tbit (me V p) q = true)) (wp_w V s) (fun q => (hab V s q).toNat) (cp V s p n).1 (cp V s p n).2 := by
  intro n
  induction n with
  | zero => exact MX.nil (fun q z => by omega)
  | succ n ih =>
    rw [cp]
    split
    · rename_i hc
      refine ih.cg (fun r => ⟨fun ⟨a, b⟩ => ⟨?_, b⟩, fun ⟨a, b⟩ => ⟨by omega, b⟩⟩)
      apply Classical.byContradiction
      intro z
      rw [show r = n by omega] at b
      exact b.elim hc.1 hc.2
    · rename_i hc
      have hin : n = p ∨ tbit (me V p) n = true := by
        apply Classical.byContradiction
        intro z
        exact hc ⟨fun q => z (Or.inl q), fun q => z (Or.inr q)⟩
      have := ih.step (N' := fun q => q < n + 1 ∧ (q = p ∨ tbit (me V p) q = true)) (q := n) (wpw_nn hV s n) (habN_lt hV s n) (fun r => ⟨fun ⟨a, b⟩ => by
        by_cases e : r = n
        · exact Or.inr e
        · exact Or.inl ⟨by omega, b⟩, fun z => by
        rcases z with ⟨a, b⟩ | z
        · exact ⟨by omega, b⟩
        · rw [z]; exact ⟨by omega, hin⟩⟩)
      unfold wp_w at this ⊢
      split
      · rename_i c1; rw [if_pos c1, if_pos c1] at this; exact this
      · rename_i c1
        rw [if_neg c1, if_neg c1] at this
        split
        · rename_i c2; rw [if_pos c2] at this; exact this
        · rename_i c2; rw [if_neg c2] at this; exact this
theorem band_pw_all : ∀ m : Fin 16, ∀ k : Fin 4, band ((m.val : Nat) : Int) (2 ^ k.val) = 0 ↔ ¬ m.val.testBit k.val = true := by decide +kernel
theorem band_pw {m : Int} {k : Nat} (h0 : 0 ≤ m) (h1 : m.toNat < 2 ^ 4) (hk : k < 4) : band m (2 ^ k) = 0 ↔ ¬ tbit m k = true := by
  have := band_pw_all ⟨m.toNat, by omega⟩ ⟨k, hk⟩
  simp only [Int.toNat_of_nonneg h0] at this
  exact this
theorem i2b_all : ∀ m : Fin 128, i2bI ((m.val : Nat) : Int) = ((m.val : Nat) : Int) := by decide +kernel
theorem i2b_id {m : Int} (h0 : 0 ≤ m) (h1 : m < 128) : i2bI m = m := by
  have := i2b_all ⟨m.toNat, by omega⟩
  simp only [Int.toNat_of_nonneg h0] at this
  exact this
theorem fan_nn {V : Vy} (hV : VOK V) (s : Int) (p : Nat) {k : Nat} (hk : (k : Int) < ha V) : 0 ≤ (if an V = 0 then wor V s p k else lik V s p k) := by
  have := hV.ha
  split
  · exact (wor_bd hV s p (by omega) (by omega)).1
  · exact (lik_bd hV s p k).1
theorem aset_bd {V : Vy} (hV : VOK V) (s : Int) (p : Nat) : 0 ≤ aset V s p ∧ (aset V s p).toNat < 2 ^ 4 := by
  have hh := hV.ha
  unfold aset
  split
  · exact (cp_mx hV s p _).2.2.1
  · have := gr_bd (fun h => if an V = 0 then wor V s p h else lik V s p h) (ha V).toNat
    exact ⟨this.2.1, Nat.lt_of_lt_of_le this.2.2 (Nat.pow_le_pow_right (by omega) (by omega))⟩
theorem pw_bd {k : Nat} (hk : k < 4) : (0 : Int) ≤ 2 ^ k ∧ ((2 : Int) ^ k).toNat < 2 ^ 4 := by
  rcases (show k = 0 ∨ k = 1 ∨ k = 2 ∨ k = 3 by omega) with rfl | rfl | rfl | rfl <;> decide
theorem ans_bd {V : Vy} (hV : VOK V) (s : Int) {p : Nat} (hp : (p : Int) < pe V) : 0 ≤ ans V s p ∧ (ans V s p).toNat < 2 ^ 4 := by
  have hh := hV.ha
  have hb := hab_bd hV s p
  unfold ans
  split
  · rename_i hk
    have := (hV.ke p hp).resolve_left hk
    exact pw_bd (by omega)
  · split
    · exact pw_bd (by omega)
    · exact aset_bd hV s p
theorem gr_spec' (f : Nat → Int) {n : Nat} (hf : ∀ k, k < n → 0 ≤ f k) : ∃ g : Nat → Int, (∀ k, 0 ≤ g k) ∧ (∀ k, k < n → g k = f k) ∧ ∀ m, m ≤ n → gr g m = gr f m := by
  refine ⟨fun k => if k < n then f k else 0, fun k => ?_, fun k hk => if_pos hk, fun m => ?_⟩
  · show 0 ≤ (if k < n then f k else 0)
    split
    · rename_i h; exact hf k h
    · omega
  · induction m with
    | zero => intro _; rfl
    | succ m ih => intro hm; rw [gr, gr, ih (by omega), if_pos (show m < n by omega)]
theorem aset_some {V : Vy} (hV : VOK V) (s : Int) {p : Nat} (hp : (p : Int) < pe V) : ∃ k : Nat, (k : Int) < ha V ∧ tbit (aset V s p) k = true := by
  have hh := hV.ha
  unfold aset
  split
  · have hM := cp_mx hV s p (pe V).toNat
    obtain ⟨q, q1, q2⟩ := hM.2.2.2.resolve_right (fun z => z.1 p ⟨by omega, Or.inl rfl⟩)
    have hb := hab_bd hV s q
    exact ⟨(hab V s q).toNat, by omega, (hM.2.1 _).mpr ⟨q, q1, q2, rfl⟩⟩
  · obtain ⟨g, g1, g2, g3⟩ := gr_spec' (fun h => if an V = 0 then wor V s p h else lik V s p h) (n := (ha V).toNat) (fun k hk => fan_nn hV s p (by omega))
    obtain ⟨k, k1, k2⟩ := gr_some g g1 (n := (ha V).toNat) (by omega)
    rw [g3 _ (Nat.le_refl _)] at k2
    exact ⟨k, by omega, k2⟩
theorem aset_lt {V : Vy} (hV : VOK V) (s : Int) {p k : Nat} (h : tbit (aset V s p) k = true) : (k : Int) < ha V := by
  have hh := hV.ha
  unfold aset at h
  split at h
  · have hM := cp_mx hV s p (pe V).toNat
    obtain ⟨q, q1, q2, q3⟩ := (hM.2.1 _).mp h
    have hb := hab_bd hV s q
    have : (hab V s q).toNat = k := q3
    omega
  · have := gr_bd (fun h => if an V = 0 then wor V s p h else lik V s p h) (ha V).toNat
    have := tbit_lt this.2.2 h
    omega
theorem ans_some {V : Vy} (hV : VOK V) (s : Int) {p : Nat} (hp : (p : Int) < pe V) : ∃ k : Nat, (k : Int) < ha V ∧ tbit (ans V s p) k = true := by
  have hh := hV.ha
  have hb := hab_bd hV s p
  unfold ans
  split
  · rename_i hk
    have := (hV.ke p hp).resolve_left hk
    exact ⟨(ke V p).toNat, by omega, (tbit_pw _ _).mpr rfl⟩
  · split
    · exact ⟨(hab V s p).toNat, by omega, (tbit_pw _ _).mpr rfl⟩
    · exact aset_some hV s hp
theorem ans_lt {V : Vy} (hV : VOK V) (s : Int) {p k : Nat} (hp : (p : Int) < pe V) (h : tbit (ans V s p) k = true) : (k : Int) < ha V := by
  have hh := hV.ha
  have hb := hab_bd hV s p
  unfold ans at h
  split at h
  · rename_i hk
    have := (hV.ke p hp).resolve_left hk
    have := (tbit_pw _ _).mp h
    omega
  · split at h
    · have := (tbit_pw _ _).mp h
      omega
    · exact aset_lt hV s h
/-- the habits of all in a STATE lie in have -/
def HVs (σ : St) (i : Nat) (V : Vy) (s : Int) : Prop := ∀ q : Nat, (q : Int) < pe V → σ 24 i q = hab V s q
def rP (i : Nat) (c i' _j : Nat) : Prop := i' = i ∧ 23 ≤ c ∧ c ≤ 26
def mP (i : Nat) (c i' _j : Nat) : Prop := i' = i ∧ c = 26
def hP (i : Nat) (c i' _j : Nat) : Prop := i' = i ∧ 24 ≤ c ∧ c ≤ 26
def REP (σ : St) (i : Nat) (V : Vy) : Prop := ∀ s, isSt V s → ∀ p : Nat, (p : Int) < pe V → σ 23 i (s * 10 + p).toNat = 16 * hab V s p + ans V s p
section Rep
variable {i j : Nat} {σ : St} {Q : Res → St → Prop} {V : Vy} {s : Int}
theorem c_countMet {p : Nat} (hV : VOK V) (hT : VT σ j V) (hH : HVs σ i V s) (hp : (p : Int) < pe V) (h : ∀ τ, FR (mP i) σ τ → (∀ k : Nat, (k : Int) < ha V → τ 26 i k = lik V s p k) → Q (.inl none) τ) : WP mX3_countMet 0 [vR 4 i, vR 10 j, vI (p : Int), vU] [] σ Q := by
  have hpe := hV.pe
  have hha := hV.ha
  have hb := hab_bd hV s
  refine b_X3_countMet_0 ?_
  have key2 : ∀ n q : Nat, ((n + q : Nat) : Int) = pe V → ∀ τ, FR (mP i) σ τ → (∀ k : Nat, (k : Int) < ha V → τ 26 i k = sm (fun q => if tbit (me V p) q = true ∧ hab V s q = (k : Int) then 1 else 0) q) → WP mX3_countMet 25 [vR 4 i, vR 10 j, vI (p : Int), vI (q : Int)] [] τ Q := by
    intro n
    induction n with
    | zero =>
      intro q hq τ hF hm
      have hT' : VT τ j V := hT.fr hF (fun c k hc z => by unfold mP at z; omega)
      refine b_X3_countMet_25 ⟨fun _ => h τ hF (fun k hk => by rw [hm k hk]; unfold lik; rw [show (pe V).toNat = q by omega]), fun z => by rw [hT'.pe] at z; omega⟩
    | succ n ih =>
      intro q hq τ hF hm
      have hT' : VT τ j V := hT.fr hF (fun c k hc z => by unfold mP at z; omega)
      have hmb := hV.me p (by omega)
      have h24 : τ 24 i q = hab V s q := by rw [hF _ _ _ (fun z => by unfold mP at z; omega)]; exact hH q (by omega)
      have hbq := hb q
      have hlk := sm_bd (f := fun q' => if tbit (me V p) q' = true ∧ hab V s q' = (((hab V s q).toNat : Nat) : Int) then (1 : Int) else 0) (b := 1) (by omega) (n := q) (fun k _ => by
        show 0 ≤ (if tbit (me V p) k = true ∧ hab V s k = (((hab V s q).toNat : Nat) : Int) then (1 : Int) else 0) ∧ (if tbit (me V p) k = true ∧ hab V s k = (((hab V s q).toNat : Nat) : Int) then (1 : Int) else 0) ≤ 1
        split <;> omega)
      have hmq := hm (hab V s q).toNat (by omega)
      refine b_X3_countMet_25 ?_
      simp only [Int.toNat_natCast, hT'.pe, hT'.me p (by omega), h24, band_eq0 hmb.1 hmb.2 (show (0 : Int) ≤ q by omega) (by omega), band_ne hmb.1 hmb.2 (show (0 : Int) ≤ q by omega) (by omega)]
      refine ⟨fun z => by omega, fun _ => ⟨⟨by omega, by omega⟩, fun ht => ⟨by unfold in32; omega, ih (q + 1) (by omega) τ hF (fun k hk => ?_)⟩, fun ht => ⟨⟨by omega, by omega⟩, ⟨by omega, by omega⟩, by unfold in32; omega, ⟨by omega, by omega⟩, by unfold in32; omega, ih (q + 1) (by omega) _ (hF.u ⟨rfl, rfl⟩) (fun k hk => ?_)⟩⟩⟩
      · rw [hm k hk, sm, if_neg (fun z => ht z.1)]; omega
      · rw [sm]
        by_cases e : k = (hab V s q).toNat
        · rw [e, up_s, hmq, if_pos ⟨ht, by omega⟩]
        · rw [up_j e, hm k hk, if_neg (fun z => e (by omega))]; omega
  have key1 : ∀ n k : Nat, ((n + k : Nat) : Int) = ha V → ∀ τ, FR (mP i) σ τ → (∀ k' : Nat, k' < k → τ 26 i k' = 0) → WP mX3_countMet 2 [vR 4 i, vR 10 j, vI (p : Int), vI (k : Int)] [] τ Q := by
    intro n
    induction n with
    | zero =>
      intro k hk τ hF hm
      have hT' : VT τ j V := hT.fr hF (fun c k hc z => by unfold mP at z; omega)
      exact b_X3_countMet_2 ⟨fun _ => key2 (pe V).toNat 0 (by omega) τ hF (fun k' hk' => hm k' (by omega)), fun z => by rw [hT'.ha] at z; omega⟩
    | succ n ih =>
      intro k hk τ hF hm
      have hT' : VT τ j V := hT.fr hF (fun c k hc z => by unfold mP at z; omega)
      refine b_X3_countMet_2 ⟨fun z => by rw [hT'.ha] at z; omega, fun _ => ⟨⟨by omega, by omega⟩, by unfold in32; omega, ih (k + 1) (by omega) _ (hF.u ⟨rfl, rfl⟩) (fun k' hk' => ?_)⟩⟩
      rw [Int.toNat_natCast]
      by_cases e : k' = k
      · rw [e, up_s]
      · rw [up_j e]; exact hm k' (by omega)
  exact key1 (ha V).toNat 0 (by omega) σ FR.rf (fun k' hk' => by omega)
theorem c_pays {p : Nat} {x : Int} (hV : VOK V) (hT : VT σ j V) (hm : ∀ k : Nat, (k : Int) < ha V → σ 26 i k = lik V s p k) (hx : 0 ≤ x) (hx2 : x < ha V) (h : Q (.inl (some (vI (wor V s p x)))) σ) : WP mX3_pays 0 [vR 4 i, vR 10 j, vI x, vU, vU] [] σ Q := by
  have hha := hV.ha
  refine b_X3_pays_0 ?_
  have key : ∀ n k : Nat, ((n + k : Nat) : Int) = ha V → WP mX3_pays 5 [vR 4 i, vR 10 j, vI x, vI (sm (fun j => lik V s p j * ge V (4 * x + j).toNat) k), vI (k : Int)] [] σ Q := by
    intro n
    induction n with
    | zero =>
      intro k hk
      refine b_X3_pays_5 ⟨fun _ => ?_, fun z => by rw [hT.ha] at z; omega⟩
      rw [wor_lik hV, show (ha V).toNat = k by omega] at h
      exact h
    | succ n ih =>
      intro k hk
      have hl := lik_bd hV s p k
      have hg := hV.ge (4 * x + k).toNat (by omega)
      have e54 : σ 54 j (x * 4 + k).toNat = ge V (4 * x + k).toNat := by
        rw [hT.ge _ (by omega)]
        congr 1
        omega
      have hprod : 0 ≤ lik V s p k * ge V (4 * x + k).toNat ∧ lik V s p k * ge V (4 * x + k).toNat ≤ 10 * 198 := ⟨Int.mul_nonneg hl.1 hg.1, Int.mul_le_mul hl.2 hg.2 hg.1 (by omega)⟩
      have hsb := sm_bd (f := fun j : Nat => lik V s p j * ge V (4 * x + j).toNat) (b := 1980) (by omega) (n := k) (fun k' hk' => by
        have hl := lik_bd hV s p k'
        have hg := hV.ge (4 * x + k').toNat (by omega)
        exact ⟨Int.mul_nonneg hl.1 hg.1, by have := Int.mul_le_mul hl.2 hg.2 hg.1 (by omega); omega⟩)
      refine b_X3_pays_5 ?_
      simp only [Int.toNat_natCast, hT.ha, hm k (by omega), e54]
      refine ⟨fun z => by omega, fun _ => ⟨⟨by omega, by omega⟩, by unfold in32; omega, by unfold in32; omega, ⟨by omega, by omega⟩, by unfold in32; omega, by unfold in32; omega, by unfold in32; omega, ih (k + 1) (by omega)⟩⟩
  exact key (ha V).toNat 0 (by omega)
theorem c_greatest {p : Nat} (hV : VOK V) (hT : VT σ j V) (hH : HVs σ i V s) (hp : (p : Int) < pe V) (ha2 : an V ≠ 2) (h : ∀ τ, FR (mP i) σ τ → Q (.inl (some (vI (aset V s p)))) τ) : WP mX3_greatest 0 [vR 4 i, vR 10 j, vI (p : Int), vU, vU, vU, vU] [] σ Q := by
  have hha := hV.ha
  refine b_X3_greatest_0 (c_countMet hV hT hH hp (fun τ hF hm => ?_))
  show WP mX3_greatest 6 [vR 4 i, vR 10 j, vU, vU, vU, vU, vU] [] τ Q
  refine b_X3_greatest_6 ?_
  have hT' : VT τ j V := hT.fr hF (fun c k hc z => by unfold mP at z; omega)
  have key : ∀ n k : Nat, ((n + k : Nat) : Int) = ha V → WP mX3_greatest 14 [vR 4 i, vR 10 j, vU, vI (gr (fun h => if an V = 0 then wor V s p h else lik V s p h) k).1, vI (gr (fun h => if an V = 0 then wor V s p h else lik V s p h) k).2, vI (k : Int), vU] [] τ Q := by
    intro n
    induction n with
    | zero =>
      intro k hk
      refine b_X3_greatest_14 ⟨fun _ => ?_, fun z => by rw [hT'.ha] at z; omega⟩
      have := h τ hF
      unfold aset at this
      rw [if_neg ha2, show (ha V).toNat = k by omega] at this
      exact this
    | succ n ih =>
      intro k hk
      have hgb := gr_bd (fun h => if an V = 0 then wor V s p h else lik V s p h) k
      have h16 : (gr (fun h => if an V = 0 then wor V s p h else lik V s p h) k).2.toNat < 2 ^ 4 := Nat.lt_of_lt_of_le hgb.2.2 (Nat.pow_le_pow_right (by omega) (by omega))
      have tail : WP mX3_greatest 47 [vR 4 i, vR 10 j, vU, vI (gr (fun h => if an V = 0 then wor V s p h else lik V s p h) k).1, vI (gr (fun h => if an V = 0 then wor V s p h else lik V s p h) k).2, vI (k : Int), vU] [vI (if an V = 0 then wor V s p k else lik V s p k)] τ Q := by
        have hi := ih (k + 1) (by omega)
        rw [gr] at hi
        refine b_X3_greatest_47 ?_
        rw [bor1 hgb.2.1 (by omega) (show (0 : Int) ≤ k by omega) (by omega), bor1 (show (0 : Int) ≤ 0 by omega) (by omega) (show (0 : Int) ≤ k by omega) (by omega), Int.toNat_natCast]
        refine ⟨fun hc => ⟨fun hd => ⟨by unfold in32; omega, ?_⟩, fun hd => ⟨by unfold in32; omega, ?_⟩⟩, fun hc => ⟨fun hd => absurd rfl hd, fun _ => ⟨by unfold in32; omega, ?_⟩⟩⟩
        · rw [if_neg (by omega), if_neg hd] at hi; exact hi
        · rw [if_neg (by omega), if_pos hd] at hi; exact hi
        · rw [if_pos (by omega)] at hi; exact hi
      refine b_X3_greatest_14 ?_
      simp only [hT'.ha, hT'.an, Int.toNat_natCast, hm k (by omega)]
      refine ⟨fun z => by omega, fun _ => ⟨fun hz => ⟨⟨by omega, by omega⟩, ?_⟩, fun hz => ?_⟩⟩
      · rw [if_neg hz] at tail; exact tail
      · rw [if_pos hz] at tail
        refine c_pays hV hT' hm (by omega) (by omega) ?_
        exact b_X3_greatest_37 tail
  exact key (ha V).toNat 0 (by omega)
theorem c_copied {p : Nat} (hV : VOK V) (hT : VT σ j V) (hH : HVs σ i V s) (hw : ∀ q : Nat, (q : Int) < pe V → σ 25 i q = wp_w V s q) (hp : (p : Int) < pe V) (ha2 : an V = 2) (h : Q (.inl (some (vI (aset V s p)))) σ) : WP mX3_copied 0 [vR 4 i, vR 10 j, vI (p : Int), vU, vU, vU] [] σ Q := by
  have hpe := hV.pe
  have hha := hV.ha
  have hb := hab_bd hV s
  have hbp := hb p
  refine b_X3_copied_0 ?_
  simp only [Int.toNat_natCast, hw p hp, hH p hp, shl1 hbp.1 (by omega)]
  refine ⟨⟨by omega, by omega⟩, ⟨by omega, by omega⟩, ?_⟩
  have key : ∀ n q : Nat, ((n + q : Nat) : Int) = pe V → ∀ m b, MX (fun r => r = p ∨ (r < q ∧ tbit (me V p) r = true)) (wp_w V s) (fun r => (hab V s r).toNat) m b → WP mX3_copied 20 [vR 4 i, vR 10 j, vI (p : Int), vI m, vI b, vI (q : Int)] [] σ Q := by
    intro n
    induction n with
    | zero =>
      intro q hq m b hM
      refine b_X3_copied_20 ⟨fun _ => ?_, fun z => by rw [hT.pe] at z; omega⟩
      have hc := cp_mx hV s p (pe V).toNat
      have := (hM.cg (N' := fun r => r < (pe V).toNat ∧ (r = p ∨ tbit (me V p) r = true)) (fun r => ⟨fun ⟨a, z⟩ => z.elim Or.inl (fun z => Or.inr ⟨by omega, z⟩), fun z => z.elim (fun z => by subst z; exact ⟨by omega, Or.inl rfl⟩) (fun z => ⟨by omega, Or.inr z.2⟩)⟩)).uniq hc ⟨p, by omega, Or.inl rfl⟩
      unfold aset at h
      rw [if_pos ha2, ← this.2] at h
      exact h
    | succ n ih =>
      intro q hq m b hM
      have hmb := hV.me p (by omega)
      have hbq := hb q
      have hM3 := hM.2.2.1
      refine b_X3_copied_20 ?_
      simp only [Int.toNat_natCast, hT.pe, hT.me p (by omega), hw q (by omega), band_eq0 hmb.1 hmb.2 (show (0 : Int) ≤ q by omega) (by omega), band_ne hmb.1 hmb.2 (show (0 : Int) ≤ q by omega) (by omega)]
      have same : ¬ tbit (me V p) q = true → WP mX3_copied 20 [vR 4 i, vR 10 j, vI (p : Int), vI m, vI b, vI ((q : Int) + 1)] [] σ Q := fun ht => ih (q + 1) (by omega) m b (hM.cg (fun r => ⟨fun z => z.imp_right (fun z => ⟨by
        apply Classical.byContradiction
        intro w
        exact ht (by rw [show q = r by omega]; exact z.2), z.2⟩), fun z => z.imp_right (fun z => ⟨by omega, z.2⟩)⟩))
      have st : tbit (me V p) q = true → MX (fun r => r = p ∨ (r < q + 1 ∧ tbit (me V p) r = true)) (wp_w V s) (fun r => (hab V s r).toNat) (if wp_w V s q > m then wp_w V s q else m) (if wp_w V s q > m then sadd 0 (hab V s q).toNat else if wp_w V s q = m then sadd b (hab V s q).toNat else b) := fun ht => hM.step (q := q) (wpw_nn hV s q) (habN_lt hV s q) (fun r => ⟨fun z => z.elim (fun z => Or.inl (Or.inl z)) (fun z => by
          by_cases e : r = q
          · exact Or.inr e
          · exact Or.inl (Or.inr ⟨by omega, z.2⟩)), fun z => z.elim (fun z => z.imp_right (fun z => ⟨by omega, z.2⟩)) (fun z => by subst z; exact Or.inr ⟨by omega, ht⟩)⟩)
      have e24 : σ 24 i q = hab V s q := hH q (by omega)
      refine ⟨fun z => by omega, fun _ => ⟨⟨by omega, by omega⟩, fun ht => ⟨⟨by omega, by omega⟩, fun hc => ?_, fun hc => ⟨⟨by omega, by omega⟩, ?_⟩⟩, fun ht => ⟨by unfold in32; omega, same ht⟩⟩⟩
      · refine b_X3_copied_68 ?_
        simp only [Int.toNat_natCast, hw q (by omega), e24]
        have st' := st ht
        rw [if_neg (by omega), if_neg (by omega)] at st'
        refine ⟨⟨by omega, by omega⟩, fun hd => ⟨by unfold in32; omega, ?_⟩, fun hd => ⟨⟨by omega, by omega⟩, by unfold in32; omega, ?_⟩⟩
        · rw [if_neg hd] at st'; exact ih (q + 1) (by omega) _ _ st'
        · rw [if_pos hd] at st'
          rw [bor1 hM3.1 (by omega) hbq.1 (by omega)]
          exact ih (q + 1) (by omega) _ _ st'
      · refine b_X3_copied_68 ?_
        simp only [Int.toNat_natCast, hw q (by omega), e24]
        have st' := st ht
        rw [if_pos (by omega), if_pos (by omega)] at st'
        refine ⟨⟨by omega, by omega⟩, fun hd => absurd rfl hd, fun _ => ⟨⟨by omega, by omega⟩, by unfold in32; omega, ?_⟩⟩
        rw [bor1 (show (0 : Int) ≤ 0 by omega) (by omega) hbq.1 (by omega)]
        exact ih (q + 1) (by omega) _ _ st'
  have e0 : ((2 : Int) ^ (hab V s p).toNat) = sadd 0 (hab V s p).toNat := by unfold sadd; simp
  rw [e0]
  have m0 := (MX.nil (w := wp_w V s) (g := fun r => (hab V s r).toNat) (N := fun _ => False) (fun _ z => z)).step (N' := fun r => r = p ∨ (r < 0 ∧ tbit (me V p) r = true)) (q := p) (wpw_nn hV s p) (habN_lt hV s p) (fun r => ⟨fun z => z.elim Or.inr (fun z => by omega), fun z => z.elim (fun z => z.elim) Or.inl⟩)
  have wn := wpw_nn hV s p
  rw [if_pos (by omega), if_pos (by omega)] at m0
  exact key (pe V).toNat 0 (by omega) _ _ m0
end Rep
/-! the rest of Replies -/
section Rep2
variable {i j : Nat} {σ : St} {Q : Res → St → Prop} {V : Vy} {s : Int}
theorem ans_of {V : Vy} (hV : VOK V) {s : Int} {p : Nat} (hk : ke V p = -1) : ans V s p = if sy V ≠ 0 ∧ tbit (aset V s p) (hab V s p).toNat = true then 2 ^ (hab V s p).toNat else aset V s p := by
  unfold ans
  rw [if_neg (fun q => q hk)]
  have := hV.sy
  by_cases e : sy V = 1
  · by_cases c : tbit (aset V s p) (hab V s p).toNat = true
    · rw [if_pos ⟨e, c⟩, if_pos ⟨by omega, c⟩]
    · rw [if_neg (fun q => c q.2), if_neg (fun q => c q.2)]
  · rw [if_neg (fun q => e q.1), if_neg (fun q => q.1 (by omega))]
theorem c_reply {p : Nat} (hV : VOK V) (hT : VT σ j V) (hF : VF σ j V) (hH : HVs σ i V s) (hw : an V = 2 → ∀ q : Nat, (q : Int) < pe V → σ 25 i q = wp_w V s q) (hp : (p : Int) < pe V) (h : ∀ τ, FR (mP i) σ τ → Q (.inl (some (vI (ans V s p)))) τ) : WP mX3_reply 0 [vR 4 i, vR 10 j, vI (p : Int), vU, vU] [] σ Q := by
  have hpe := hV.pe
  have hha := hV.ha
  have hb := hab_bd hV s p
  have ab := aset_bd hV s p
  have tail : ∀ τ, FR (mP i) σ τ → ke V p = -1 → WP mX3_reply 40 [vR 4 i, vR 10 j, vI (p : Int), vU, vU] [vI (aset V s p)] τ Q := by
    intro τ hFr hk
    have hT' : VT τ j V := hT.fr hFr (fun c k hc z => by unfold mP at z; omega)
    have h24 : τ 24 i p = hab V s p := by rw [hFr _ _ _ (fun z => by unfold mP at z; omega)]; exact hH p hp
    have hq := h τ hFr
    rw [ans_of hV hk] at hq
    refine b_X3_reply_40 ?_
    simp only [Int.toNat_natCast, h24, hT'.sy, shl1 hb.1 (show hab V s p < 12 by omega), band_pw ab.1 ab.2 (show (hab V s p).toNat < 4 by omega), ne_eq]
    refine ⟨⟨by omega, by omega⟩, fun hs => ?_, fun hs => ⟨fun ht => ?_, fun ht => ?_⟩⟩
    · rw [if_neg (fun q => q.1 hs)] at hq; exact hq
    · rw [if_neg (fun q => ht q.2)] at hq; exact hq
    · rw [if_pos ⟨hs, Classical.byContradiction ht⟩] at hq; exact hq
  refine b_X3_reply_0 ?_
  simp only [Int.toNat_natCast, hT.an, hT.ke p (by omega), band_ne hF.1.1 hF.1.2 (show (0 : Int) ≤ p by omega) (show (p : Int) < 10 by omega)]
  refine ⟨fun ht => ?_, fun ht => ⟨⟨by omega, by omega⟩, ?_⟩⟩
  · have hk := ((hF.2.1 p).mp ht).2
    refine ⟨fun h2 => c_greatest hV hT hH hp h2 (fun τ hFr => tail τ hFr hk), fun h2 => c_copied hV hT hH (hw h2) hp h2 (b_X3_reply_31 (tail σ FR.rf hk))⟩
  · have hk : ke V p ≠ -1 := fun q => ht ((hF.2.1 p).mpr ⟨hp, q⟩)
    have hk2 := (hV.ke p hp).resolve_left hk
    have hq := h σ FR.rf
    unfold ans at hq
    rw [if_pos hk] at hq
    rw [shl1 hk2.1 (by omega)]
    exact hq
theorem c_meetIn {x : Int} (hV : VOK V) (hT : VT σ j V) (hP' : VP σ j V) (hx : 0 ≤ x) (h : ∀ τ, FR (hP i) σ τ → HVs τ i V x → (an V = 2 → ∀ q : Nat, (q : Int) < pe V → τ 25 i q = wp_w V x q) → Q (.inl none) τ) : WP mX3_meetIn 0 [vR 4 i, vR 10 j, vI x, vU] [] σ Q := by
  have hpe := hV.pe
  have hha := hV.ha
  have hb := hab_bd hV x
  have hpw := pw_pos hV
  refine b_X3_meetIn_0 ?_
  have key2 : an V = 2 → ∀ n q : Nat, ((n + q : Nat) : Int) = pe V → ∀ τ, FR (hP i) σ τ → HVs τ i V x → (∀ r : Nat, r < q → τ 25 i r = wp_w V x r) → WP mX3_meetIn 39 [vR 4 i, vR 10 j, vU, vI (q : Int)] [] τ Q := by
    intro ha2 n
    induction n with
    | zero =>
      intro q hq τ hF hH hw
      have hT' : VT τ j V := hT.fr hF (fun c k hc z => by unfold hP at z; omega)
      exact b_X3_meetIn_39 ⟨fun _ => h τ hF hH (fun _ r hr => hw r (by omega)), fun z => by rw [hT'.pe] at z; omega⟩
    | succ n ih =>
      intro q hq τ hF hH hw
      have hT' : VT τ j V := hT.fr hF (fun c k hc z => by unfold hP at z; omega)
      refine b_X3_meetIn_39 ⟨fun z => by rw [hT'.pe] at z; omega, fun _ => c_countMet hV hT' hH (by omega) (fun υ hF2 hm => ?_)⟩
      show WP mX3_meetIn 53 [vR 4 i, vR 10 j, vU, vI (q : Int)] [] υ Q
      have hF3 : FR (hP i) σ υ := hF.tr (hF2.wk (fun c i' k z => by unfold mP at z; unfold hP; omega))
      have hT2 : VT υ j V := hT.fr hF3 (fun c k hc z => by unfold hP at z; omega)
      have h24 : ∀ r : Nat, (r : Int) < pe V → υ 24 i r = hab V x r := fun r hr => by rw [hF2 _ _ _ (fun z => by unfold mP at z; omega)]; exact hH r hr
      have hbq := hb q
      refine b_X3_meetIn_53 ?_
      simp only [Int.toNat_natCast, h24 q (by omega)]
      refine ⟨⟨by omega, by omega⟩, c_pays hV hT2 hm hbq.1 hbq.2 ?_⟩
      show WP mX3_meetIn 69 [vR 4 i, vR 10 j, vU, vI (q : Int)] [vI (wor V x q (hab V x q)), vI (q : Int), vR 25 i] υ Q
      refine b_X3_meetIn_69 ⟨⟨by omega, by omega⟩, by unfold in32; omega, ih (q + 1) (by omega) _ (hF3.u ⟨rfl, by omega, by omega⟩) (fun r hr => by rw [up_c (by omega)]; exact h24 r hr) (fun r hr => ?_)⟩
      rw [Int.toNat_natCast]
      by_cases e : r = q
      · rw [e, up_s]; rfl
      · rw [up_j e, hF2 _ _ _ (fun z => by unfold mP at z; omega)]; exact hw r (by omega)
  have key1 : ∀ n q : Nat, ((n + q : Nat) : Int) = pe V → ∀ τ, FR (hP i) σ τ → (∀ r : Nat, r < q → τ 24 i r = hab V x r) → WP mX3_meetIn 2 [vR 4 i, vR 10 j, vI x, vI (q : Int)] [] τ Q := by
    intro n
    induction n with
    | zero =>
      intro q hq τ hF hH
      have hT' : VT τ j V := hT.fr hF (fun c k hc z => by unfold hP at z; omega)
      refine b_X3_meetIn_2 ⟨fun _ => ⟨fun h2 => key2 (by rw [← hT'.an]; exact h2) (pe V).toNat 0 (by omega) τ hF (fun r hr => hH r (by omega)) (fun r hr => by omega), fun h2 => h τ hF (fun r hr => hH r (by omega)) (fun h3 => absurd (by rw [hT'.an]; exact h3) h2)⟩, fun z => by rw [hT'.pe] at z; omega⟩
    | succ n ih =>
      intro q hq τ hF hH
      have hT' : VT τ j V := hT.fr hF (fun c k hc z => by unfold hP at z; omega)
      have e60 : τ 60 j q = ha V ^ q := by rw [hF _ _ _ (fun z => by unfold hP at z; omega)]; exact hP'.1 q (by omega)
      refine b_X3_meetIn_2 ?_
      simp only [Int.toNat_natCast, e60, hT'.pe, hT'.ha]
      refine ⟨fun z => by omega, fun _ => ⟨⟨by omega, by omega, hx, hpw q, Int.ediv_nonneg hx (Int.le_of_lt (hpw q)), by omega⟩, ⟨by omega, by omega⟩, by unfold in32; omega, ih (q + 1) (by omega) _ (hF.u ⟨rfl, by omega, by omega⟩) (fun r hr => ?_)⟩⟩
      by_cases e : r = q
      · rw [e, up_s]; rfl
      · rw [up_j e]; exact hH r (by omega)
  exact key1 (pe V).toNat 0 (by omega) σ FR.rf (fun r hr => by omega)
/-- the row that belongs there -/
def rowOf (V : Vy) (s : Int) (p : Nat) : Int := 16 * hab V s p + ans V s p
theorem row_all : ∀ h : Fin 4, ∀ a : Fin 16, i2bI (bor (shl ((h.val : Nat) : Int) 4) ((a.val : Nat) : Int)) = 16 * ((h.val : Nat) : Int) + ((a.val : Nat) : Int) := by decide +kernel
theorem row_eq (hV : VOK V) {s : Int} {p : Nat} (hp : (p : Int) < pe V) : i2bI (bor (shl (hab V s p) 4) (ans V s p)) = rowOf V s p := by
  have hb := hab_bd hV s p
  have ab := ans_bd hV s hp
  have hh := hV.ha
  have := row_all ⟨(hab V s p).toNat, by omega⟩ ⟨(ans V s p).toNat, by omega⟩
  simp only [Int.toNat_of_nonneg hb.1, Int.toNat_of_nonneg ab.1] at this
  exact this
theorem row_bd (hV : VOK V) {s : Int} {p : Nat} (hp : (p : Int) < pe V) : 0 ≤ rowOf V s p ∧ rowOf V s p < 64 := by
  have hb := hab_bd hV s p
  have ab := ans_bd hV s hp
  have hh := hV.ha
  unfold rowOf
  omega
/-- rows of all STATES ahead of place n in the list, and of the next one's persons below p, are there; b tells if one was another -/
def fI (σ : St) (i j : Nat) (V : Vy) (n p : Nat) (b : Int) (τ : St) : Prop := FR (rP i) σ τ ∧ (∀ k q : Nat, (k < n ∨ (k = n ∧ q < p)) → (k : Int) < σ 10 j 12 → (q : Int) < pe V → τ 23 i (σ 61 j k * 10 + q).toNat = rowOf V (σ 61 j k) q) ∧ (∀ k q : Nat, ¬ (k < n ∨ (k = n ∧ q < p)) → (k : Int) < σ 10 j 12 → (q : Int) < pe V → τ 23 i (σ 61 j k * 10 + q).toNat = σ 23 i (σ 61 j k * 10 + q).toNat) ∧ (b = 0 ∨ b = 1) ∧ (b = 0 ↔ ∀ k q : Nat, (k < n ∨ (k = n ∧ q < p)) → (k : Int) < σ 10 j 12 → (q : Int) < pe V → σ 23 i (σ 61 j k * 10 + q).toNat = rowOf V (σ 61 j k) q)
theorem c_fillR (hV : VOK V) (hA : VA σ j V) (h : ∀ τ b, FR (rP i) σ τ → REP τ i V → (b = 0 ∨ b = 1) → (b = 0 ↔ REP σ i V) → Q (.inl (some (vI b))) τ) : WP mX3_fill 0 [vR 4 i, vR 10 j, vU, vU, vU, vU, vU, vU] [] σ Q := by
  have hpe := hV.pe
  have hha := hV.ha
  obtain ⟨hT, hP', hF, hL, hM⟩ := hA
  have inj : ∀ k k' q q' : Nat, (k : Int) < σ 10 j 12 → (k' : Int) < σ 10 j 12 → (q : Int) < pe V → (q' : Int) < pe V → (σ 61 j k * 10 + q).toNat = (σ 61 j k' * 10 + q').toNat → k = k' ∧ q = q' := by
    intro k k' q q' h1 h2 h3 h4 he
    have a1 := (st_bd hV (hL.2.1 k h1)).1
    have a2 := (st_bd hV (hL.2.1 k' h2)).1
    have e1 : σ 61 j k = σ 61 j k' := by omega
    refine ⟨?_, by omega⟩
    rcases Nat.lt_trichotomy k k' with z | z | z
    · have := hL.2.2.1 k k' z h2; omega
    · exact z
    · have := hL.2.2.1 k' k z h1; omega
  refine b_X3_fill_0 ?_
  have keep : ∀ τ, FR (rP i) σ τ → VA τ j V := by
    intro τ hFr
    have g : ∀ c k, ¬ rP i c j k → τ c j k = σ c j k := fun c k q => hFr c j k q
    refine ⟨hT.fr hFr (fun c k hc z => by unfold rP at z; omega), ⟨fun q hq => by rw [g 60 q (fun z => by unfold rP at z; omega)]; exact hP'.1 q hq, by rw [g 10 11 (fun z => by unfold rP at z; omega)]; exact hP'.2⟩, ?_, ?_, ?_⟩
    · unfold VF
      rw [g 10 9 (fun z => by unfold rP at z; omega), g 10 10 (fun z => by unfold rP at z; omega)]; exact hF
    · unfold VL
      rw [g 10 12 (fun z => by unfold rP at z; omega)]
      refine ⟨hL.1, fun k hk => ?_, fun k k' hkk hk => ?_, fun t ht => ?_, hL.2.2.2.2⟩
      · rw [g 61 k (fun z => by unfold rP at z; omega)]; exact hL.2.1 k hk
      · rw [g 61 k (fun z => by unfold rP at z; omega), g 61 k' (fun z => by unfold rP at z; omega)]; exact hL.2.2.1 k k' hkk hk
      · obtain ⟨k, k1, k2⟩ := hL.2.2.2.1 t ht
        exact ⟨k, k1, by rw [g 61 k (fun z => by unfold rP at z; omega)]; exact k2⟩
    · unfold VM
      rw [g 10 13 (fun z => by unfold rP at z; omega)]
      refine ⟨hM.1, fun k hk => ?_, fun q hq hk x hx1 hx2 => ?_⟩
      · rw [g 58 k (fun z => by unfold rP at z; omega), g 59 k (fun z => by unfold rP at z; omega)]; exact hM.2.1 k hk
      · obtain ⟨k, k1, k2, k3⟩ := hM.2.2 q hq hk x hx1 hx2
        exact ⟨k, k1, by rw [g 58 k (fun z => by unfold rP at z; omega)]; exact k2, by rw [g 59 k (fun z => by unfold rP at z; omega)]; exact k3⟩
  have key : ∀ n k : Nat, ((n + k : Nat) : Int) = σ 10 j 12 → ∀ b τ, fI σ i j V k 0 b τ → WP mX3_fill 4 [vR 4 i, vR 10 j, vI b, vI (k : Int), vU, vU, vU, vU] [] τ Q := by
    intro n
    induction n with
    | zero =>
      intro k hk b τ hI
      obtain ⟨h1, h2, h3, h4, h5⟩ := hI
      have e12 : τ 10 j 12 = σ 10 j 12 := h1 _ _ _ (fun z => by unfold rP at z; omega)
      refine b_X3_fill_4 ⟨fun _ => ⟨h4, h τ b h1 (fun t ht p hp => ?_) h4 ?_⟩, fun z => by omega⟩
      · obtain ⟨k', k1, k2⟩ := hL.2.2.2.1 t ht
        have := h2 k' p (Or.inl (by omega)) k1 hp
        rw [k2] at this
        exact this
      · rw [h5]
        constructor
        · intro z t ht p hp
          obtain ⟨k', k1, k2⟩ := hL.2.2.2.1 t ht
          have := z k' p (Or.inl (by omega)) k1 hp
          rw [k2] at this
          exact this
        · intro z k' q _ k1 k2
          exact z _ (hL.2.1 k' k1) q k2
    | succ n ih =>
      intro k hk b τ hI
      have hI0 := hI
      obtain ⟨h1, h2, h3, h4, h5⟩ := hI
      have hA' := keep τ h1
      have e12 : τ 10 j 12 = σ 10 j 12 := h1 _ _ _ (fun z => by unfold rP at z; omega)
      have e61 : τ 61 j k = σ 61 j k := h1 _ _ _ (fun z => by unfold rP at z; omega)
      have hst := hL.2.1 k (by omega)
      have hsb := st_bd hV hst
      refine b_X3_fill_4 ?_
      simp only [Int.toNat_natCast, e12, e61]
      have hL1 := hL.1
      refine ⟨fun z => by omega, fun _ => ⟨⟨by omega, by omega⟩, c_meetIn hV hA'.1 hA'.2.1 hsb.1 (fun υ hF2 hH hw => ?_)⟩⟩
      show WP mX3_fill 27 [vR 4 i, vR 10 j, vI b, vI (k : Int), vI (σ 61 j k), vU, vU, vU] [] υ Q
      refine b_X3_fill_27 ?_
      have inner : ∀ m p : Nat, ((m + p : Nat) : Int) = pe V → ∀ b υ, fI σ i j V k p b υ → HVs υ i V (σ 61 j k) → (an V = 2 → ∀ q : Nat, (q : Int) < pe V → υ 25 i q = wp_w V (σ 61 j k) q) → WP mX3_fill 30 [vR 4 i, vR 10 j, vI b, vI (k : Int), vI (σ 61 j k), vI (p : Int), vU, vU] [] υ Q := by
        intro m
        induction m with
        | zero =>
          intro p hp b υ hI hH hw
          have hA2 := keep υ hI.1
          refine b_X3_fill_30 ⟨fun _ => ⟨by unfold in32; omega, ih (k + 1) (by omega) b υ ?_⟩, fun z => by rw [hA2.1.pe] at z; omega⟩
          obtain ⟨h1, h2, h3, h4, h5⟩ := hI
          have eqv : ∀ k' q : Nat, (q : Int) < pe V → ((k' < k + 1 ∨ (k' = k + 1 ∧ q < 0)) ↔ (k' < k ∨ (k' = k ∧ q < p))) := fun k' q hq => by omega
          refine ⟨h1, fun k' q z z1 z2 => h2 k' q ((eqv k' q z2).mp z) z1 z2, fun k' q z z1 z2 => h3 k' q (fun w => z ((eqv k' q z2).mpr w)) z1 z2, h4, h5.trans ⟨fun z k' q w w1 w2 => z k' q ((eqv k' q w2).mp w) w1 w2, fun z k' q w w1 w2 => z k' q ((eqv k' q w2).mpr w) w1 w2⟩⟩
        | succ m ihm =>
          intro p hp b υ hI hH hw
          have hA2 := keep υ hI.1
          have h24 := hH p (by omega)
          refine b_X3_fill_30 ?_
          simp only [Int.toNat_natCast, hA2.1.pe, h24]
          refine ⟨fun z => by omega, fun _ => ⟨⟨by omega, by omega⟩, c_reply hV hA2.1 hA2.2.2.1 hH hw (by omega) (fun ω hF3 => ?_)⟩⟩
          show WP mX3_fill 55 [vR 4 i, vR 10 j, vI b, vI (k : Int), vI (σ 61 j k), vI (p : Int), vU, vU] [vI (ans V (σ 61 j k) p), vI (shl (hab V (σ 61 j k) p) 4)] ω Q
          obtain ⟨h1, h2, h3, h4, h5⟩ := hI
          have hFw : FR (rP i) σ ω := h1.tr (hF3.wk (fun c i' k z => by unfold mP at z; unfold rP; omega))
          have w23 : ∀ x, ω 23 i x = υ 23 i x := fun x => hF3 _ _ _ (fun z => by unfold mP at z; omega)
          have wH : HVs ω i V (σ 61 j k) := fun q hq => by rw [hF3 _ _ _ (fun z => by unfold mP at z; omega)]; exact hH q hq
          have wW : an V = 2 → ∀ q : Nat, (q : Int) < pe V → ω 25 i q = wp_w V (σ 61 j k) q := fun h2 q hq => by rw [hF3 _ _ _ (fun z => by unfold mP at z; omega)]; exact hw h2 q hq
          have old := h3 k p (by omega) (by omega) (by omega)
          have rb := row_bd hV (s := σ 61 j k) (p := p) (by omega)
          refine b_X3_fill_55 ?_
          rw [row_eq hV (by omega), i2b_id rb.1 (by omega)]
          refine ⟨by unfold in32; omega, by unfold in32; omega, ⟨by omega, by omega⟩, fun he => ⟨by unfold in32; omega, ihm (p + 1) (by omega) b ω ⟨hFw, fun k' q z z1 z2 => ?_, fun k' q z z1 z2 => ?_, h4, ?_⟩ wH wW⟩, fun he => ⟨⟨by omega, by omega⟩, by unfold in32; omega, ihm (p + 1) (by omega) 1 _ ⟨hFw.u ⟨rfl, by omega, by omega⟩, fun k' q z z1 z2 => ?_, fun k' q z z1 z2 => ?_, Or.inr rfl, ?_⟩ ?_ ?_⟩⟩
          · rw [w23]
            by_cases e : k' = k ∧ q = p
            · rw [e.1, e.2, ← w23]; exact he
            · exact h2 k' q (by omega) z1 z2
          · rw [w23]; exact h3 k' q (by omega) z1 z2
          · rw [h5]
            constructor
            · intro z k' q w w1 w2
              by_cases e : k' = k ∧ q = p
              · rw [e.1, e.2, ← old, ← w23]; exact he
              · exact z k' q (by omega) w1 w2
            · intro z k' q w w1 w2
              exact z k' q (by omega) w1 w2
          · by_cases e : k' = k ∧ q = p
            · rw [e.1, e.2, up_s]
            · rw [up_j (fun w => e (inj k' k q p z1 (by omega) z2 (by omega) w)), w23]
              exact h2 k' q (by omega) z1 z2
          · rw [up_j (fun w => z (by have := inj k' k q p z1 (by omega) z2 (by omega) w; omega)), w23]
            exact h3 k' q (by omega) z1 z2
          · constructor
            · intro z; omega
            · intro z
              have := z k p (by omega) (by omega) (by omega)
              rw [w23, old] at he
              exact absurd this he
          · intro q hq; rw [up_c (by omega)]; exact wH q hq
          · intro h2 q hq; rw [up_c (by omega)]; exact wW h2 q hq
      have hF2' : FR (rP i) σ υ := h1.tr (hF2.wk (fun c i' k z => by unfold hP at z; unfold rP; omega))
      have u23 : ∀ x, υ 23 i x = τ 23 i x := fun x => hF2 _ _ _ (fun z => by unfold hP at z; omega)
      exact inner (pe V).toNat 0 (by omega) b υ ⟨hF2', fun k' q z z1 z2 => by rw [u23]; exact h2 k' q z z1 z2, fun k' q z z1 z2 => by rw [u23]; exact h3 k' q z z1 z2, h4, h5⟩ hH hw
  have hL1 := hL.1
  exact key (σ 10 j 12).toNat 0 (by omega) 0 σ ⟨FR.rf, fun k q z => by omega, fun _ _ _ _ _ => rfl, Or.inl rfl, ⟨fun _ k q z => by omega, fun _ => rfl⟩⟩
end Rep2
