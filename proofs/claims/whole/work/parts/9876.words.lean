/-! ===== words; sets of up to sixteen ===== -/
theorem sh16_all : ∀ q : Fin 16, ((Int32.ofInt ((q.val : Nat) : Int) &&& 31).toBitVec.smod 32).toNat = q.val ∧ shl 1 ((q.val : Nat) : Int) = ((2 ^ q.val : Nat) : Int) := by decide +kernel
theorem wshr {n q : Nat} (hn : n < 2 ^ 31) (hq : q < 16) : shr (n : Int) (q : Int) = ((n / 2 ^ q : Nat) : Int) := by
  unfold shr
  rw [ofN, pk_shrN hn _ q (sh16_all ⟨q, hq⟩).1, nI_toInt (Nat.lt_of_le_of_lt (Nat.div_le_self _ _) hn)]
theorem wbit {m q : Int} (h0 : 0 ≤ m) (h1 : m < 65536) (h2 : 0 ≤ q) (h3 : q < 16) : band (shr m q) 1 ≠ 0 ↔ tbit m q.toNat = true := by
  obtain ⟨n, rfl⟩ : ∃ n : Nat, m = n := ⟨m.toNat, by omega⟩
  obtain ⟨k, rfl⟩ : ∃ k : Nat, q = k := ⟨q.toNat, by omega⟩
  rw [wshr (by omega) (by omega)]
  have e := band_n (a := n / 2 ^ k) (b := 1) (by rw [Nat.and_one_is_mod]; omega)
  rw [show ((1 : Nat) : Int) = 1 from rfl] at e
  rw [e, Nat.and_one_is_mod, Int.toNat_natCast]
  unfold tbit
  rw [Int.toNat_natCast, Nat.testBit_eq_decide_div_mod_eq, decide_eq_true_iff]
  omega
theorem wbit0 {m q : Int} (h0 : 0 ≤ m) (h1 : m < 65536) (h2 : 0 ≤ q) (h3 : q < 16) : band (shr m q) 1 = 0 ↔ ¬ tbit m q.toNat = true := by
  rw [← wbit h0 h1 h2 h3]
  exact ⟨fun h k => k h, fun h => Classical.byContradiction fun k => h k⟩
theorem wbor {m q : Int} {n : Nat} (h0 : 0 ≤ m) (h1 : m.toNat < 2 ^ n) (h2 : 0 ≤ q) (h3 : q < n) (hn : n ≤ 16) : bor m (shl 1 q) = sadd m q.toNat ∧ 0 ≤ sadd m q.toNat ∧ (sadd m q.toNat).toNat < 2 ^ n := by
  refine ⟨?_, sadd_bd h1 (by omega)⟩
  obtain ⟨a, rfl⟩ : ∃ a : Nat, m = a := ⟨m.toNat, by omega⟩
  have e := (sh16_all ⟨q.toNat, by omega⟩).2
  simp only [Int.toNat_of_nonneg h2] at e
  have h4 : a ||| 2 ^ q.toNat < 2 ^ n := or_lt (by simpa using h1) (by omega)
  have h5 : 2 ^ n ≤ 2 ^ 16 := Nat.pow_le_pow_right (by omega) hn
  rw [e, bor_n (by omega)]
  rfl
/-- the five marks of the class -/
theorem told_all : ∀ m : Fin 32, (band ((m.val : Nat) : Int) 1 = ((m.val % 2 : Nat) : Int) ∧ band ((m.val : Nat) : Int) 2 = ((m.val / 2 % 2 * 2 : Nat) : Int) ∧ band ((m.val : Nat) : Int) 4 = ((m.val / 4 % 2 * 4 : Nat) : Int) ∧ band ((m.val : Nat) : Int) 8 = ((m.val / 8 % 2 * 8 : Nat) : Int) ∧ band ((m.val : Nat) : Int) 16 = ((m.val / 16 % 2 * 16 : Nat) : Int)) ∧ (m.val % 2 = 0 → bor ((m.val : Nat) : Int) 1 = ((m.val + 1 : Nat) : Int)) ∧ (m.val / 2 % 2 = 0 → bor ((m.val : Nat) : Int) 2 = ((m.val + 2 : Nat) : Int)) ∧ (m.val / 4 % 2 = 0 → bor ((m.val : Nat) : Int) 4 = ((m.val + 4 : Nat) : Int)) ∧ (m.val / 8 % 2 = 0 → bor ((m.val : Nat) : Int) 8 = ((m.val + 8 : Nat) : Int)) ∧ bor ((m.val : Nat) : Int) 16 = ((m.val % 16 + 16 : Nat) : Int) := by decide +kernel
theorem chr_bd_all : ∀ j, j < 11 → ∀ k, k < 10 → 0 ≤ chr j k ∧ chr j k ≤ 127 := by decide +kernel
theorem chr_bd {j k : Nat} (hj : j < 11) (hk : k < 10) : 0 ≤ chr j k ∧ chr j k ≤ 127 := chr_bd_all j hj k hk
def isW (I : TXT) (j s : Nat) : Prop := tK I s = 1 ∧ tE I s = s + strLen.getD j 0 ∧ ∀ k, k < strLen.getD j 0 → I.2 (s + k) = chr j k
section Words
variable {σ : St} {Q : Res → St → Prop} {I : TXT} {s : Nat}
theorem c_isWord {j : Nat} (hj : j < 11) (hT : TPc σ I) (hK : TKc σ I s) (hs : s ≤ I.1) (h : Q (.inl (some (vI (b2 (isW I j s))))) σ) : WP mX2_isWord 0 [vR 3 0, vR 1001 j, vU] [] σ Q := by
  obtain ⟨k1, k2, k3, -⟩ := hK
  have hE := tE_le hs
  have hG := tE_ge I s
  have hL := hT.2.1
  have hl := (len_all j hj).2.2
  refine b_X2_isWord_0 ?_
  rw [k1, k2, k3]
  refine ⟨fun z => ?_, fun z => ⟨by unfold in32; omega, hj, fun e => ?_, fun e => ?_⟩⟩
  · rw [b2_f (fun q => z q.1)] at h; exact h
  · have key : ∀ n k : Nat, n + k = strLen.getD j 0 → (∀ i, i < k → I.2 (s + i) = chr j i) → WP mX2_isWord 28 [vR 3 0, vR 1001 j, vI (k : Int)] [] σ Q := by
      intro n
      induction n with
      | zero =>
        intro k hk hy
        refine b_X2_isWord_28 ⟨hj, fun _ => ?_, fun z => by omega⟩
        rw [b2_t ⟨z, by omega, fun i hi => hy i (by omega)⟩] at h; exact h
      | succ n ih =>
        intro k hk hy
        have ea : (if 0 ≤ (s : Int) + (k : Int) ∧ (s : Int) + (k : Int) < σ 8 0 1 then band (σ 46 0 ((s : Int) + (k : Int)).toNat) 255 else -1) = I.2 (s + k) := by
          rw [hT.1, if_pos (by omega), show ((s : Int) + (k : Int)).toNat = s + k by omega]
          exact (hT.2.2 (s + k) (by omega)).1
        refine b_X2_isWord_28 ?_
        rw [k1, ea, Int.toNat_natCast]
        refine ⟨hj, fun z => by omega, fun _ => ⟨by unfold in32; omega, by rw [hT.1]; omega, ⟨hj, by omega, by omega⟩, fun e1 => ⟨by unfold in32; omega, ih (k + 1) (by omega) (fun i hi => ?_)⟩, fun e1 => ?_⟩⟩
        · by_cases e2 : i = k
          · rw [e2]; exact e1
          · exact hy i (by omega)
        · rw [b2_f (fun q => e1 (q.2.2 k (by omega)))] at h; exact h
    exact key (strLen.getD j 0) 0 (by omega) (fun i hi => by omega)
  · rw [b2_f (fun q => e (by have := q.2.1; omega))] at h; exact h
theorem d_is {j : Nat} (hj : j < 11) (hT : TPm σ I) (hK : TKm σ I s) (hs : s ≤ I.1) (h : Q (.inl (some (vI (b2 (isW I j s))))) σ) : WP mX13_is 0 [vR 14 0, vR 1001 j, vU, vU] [] σ Q := by
  obtain ⟨k1, k2, k3, -⟩ := hK
  have hE := tE_le hs
  have hG := tE_ge I s
  have hL := hT.2.1
  have hl := (len_all j hj).2.2
  -- once it is no word, it stays so
  have no : ∀ k : Nat, ¬ isW I j s → WP mX13_is 32 [vR 14 0, vR 1001 j, vI 0, vI (k : Int)] [] σ Q := by
    intro k hn
    rw [b2_f hn] at h
    exact b_X13_is_32 ⟨hj, fun _ => ⟨Or.inl rfl, h⟩, fun _ => ⟨fun _ => ⟨Or.inl rfl, h⟩, fun z => absurd rfl z⟩⟩
  refine b_X13_is_0 ?_
  rw [k1, k2, k3]
  refine ⟨fun z => no 0 (fun q => z q.1), fun z => ⟨by unfold in32; omega, hj, fun e => no 0 (fun q => e (by have := q.2.1; omega)), fun e => ?_⟩⟩
  have key : ∀ n k : Nat, n + k = strLen.getD j 0 → (∀ i, i < k → I.2 (s + i) = chr j i) → WP mX13_is 32 [vR 14 0, vR 1001 j, vI 1, vI (k : Int)] [] σ Q := by
    intro n
    induction n with
    | zero =>
      intro k hk hy
      refine b_X13_is_32 ⟨hj, fun _ => ⟨Or.inr rfl, ?_⟩, fun z => by omega⟩
      rw [b2_t ⟨z, by omega, fun i hi => hy i (by omega)⟩] at h; exact h
    | succ n ih =>
      intro k hk hy
      have hc := chr_bd hj (k := k) (by omega)
      have ea := sg_m hT (p := s + k) (by omega) hc.1 hc.2
      refine b_X13_is_32 ?_
      rw [k1, Int.toNat_natCast, show ((s : Int) + (k : Int)).toNat = s + k by omega]
      refine ⟨hj, fun z => by omega, fun _ => ⟨fun z => by omega, fun _ => ⟨by unfold in32; omega, ⟨by omega, by omega⟩, ⟨hj, by omega, by omega⟩, fun e1 => ⟨by unfold in32; omega, ?_⟩, fun e1 => ⟨by unfold in32; omega, ih (k + 1) (by omega) (fun i hi => ?_)⟩⟩⟩⟩
      · exact no (k + 1) (fun q => e1 (ea.mpr (q.2.2 k (by omega))))
      · by_cases e2 : i = k
        · rw [e2]; exact ea.mp e1
        · exact hy i (by omega)
  exact key (strLen.getD j 0) 0 (by omega) (fun i hi => by omega)
end Words
