/-! ===== told; how many STATES there are; the model's freeSet, bits, power ===== -/
theorem cnt_split {P : Nat → Prop} {n : Nat} : ∀ b : Nat, cnt P (n + b) = cnt P n + cnt (fun r => P (n + r)) b := by
  intro b
  induction b with
  | zero => rfl
  | succ b ih =>
    rw [← Nat.add_assoc]
    by_cases h : P (n + b)
    · rw [cnt_t h, cnt_t (P := fun r => P (n + r)) h, ih]; omega
    · rw [cnt_f h, cnt_f (P := fun r => P (n + r)) h, ih]
theorem cnt_prod {P C R : Nat → Prop} {B : Nat} : ∀ m : Nat, (∀ a r, a < m → r < B → (P (a * B + r) ↔ C a ∧ R r)) → cnt P (m * B) = cnt C m * cnt R B := by
  intro m
  induction m with
  | zero => intro _; rw [Nat.zero_mul, show cnt P 0 = 0 from rfl, show cnt C 0 = 0 from rfl, Nat.zero_mul]
  | succ m ih =>
    intro h
    rw [Nat.add_mul, Nat.one_mul, cnt_split, ih (fun a r ha hr => h a r (by omega) hr)]
    by_cases hc : C m
    · rw [cnt_t hc, Nat.add_mul, Nat.one_mul, cnt_eq (P := fun r => P (m * B + r)) (Q := R) (fun r hr => ⟨fun z => ((h m r (by omega) hr).mp z).2, fun z => (h m r (by omega) hr).mpr ⟨hc, z⟩⟩)]
    · rw [cnt_f hc, cnt_0 (P := fun r => P (m * B + r)) (fun r hr z => hc ((h m r (by omega) hr).mp z).1), Nat.add_zero]
theorem cnt_one {v n : Nat} (h : v < n) {P : Nat → Prop} (hP : ∀ k, k < n → (P k ↔ k = v)) : cnt P n = 1 := by
  rw [cnt_add (P := fun _ => False) (Q := P) (m := v) h (fun k hk hne => ⟨fun z => absurd z id, fun z => hne ((hP k hk).mp z)⟩) ((hP v h).mpr rfl) id, cnt_0 (fun k _ => id)]
theorem cnt_ok {H : Nat} (hH : 0 < H) {ke : Nat → Int} : ∀ n : Nat, (∀ p, p < n → ke p = -1 ∨ (0 ≤ ke p ∧ ke p < (H : Int))) → cnt (fun s => ∀ p, p < n → ke p ≠ -1 → ((dg H s p : Nat) : Int) = ke p) (H ^ n) = H ^ (cnt (fun p => ke p = -1) n) := by
  intro n
  induction n with
  | zero =>
    intro _
    rw [Nat.pow_zero, show cnt (fun p => ke p = -1) 0 = 0 from rfl, Nat.pow_zero]
    exact cnt_one (v := 0) (by omega) (fun k hk => ⟨fun _ => by omega, fun _ p hp => by omega⟩)
  | succ n ih =>
    intro hk
    have hB : 0 < H ^ n := Nat.pow_pos hH
    rw [Nat.pow_succ, Nat.mul_comm, cnt_prod (C := fun a => ke n = -1 ∨ (a : Int) = ke n) (R := fun s => ∀ p, p < n → ke p ≠ -1 → ((dg H s p : Nat) : Int) = ke p) H (fun a r ha hr => ?_), ih (fun p hp => hk p (by omega))]
    · by_cases e : ke n = -1
      · rw [cnt_t (P := fun p => ke p = -1) e, cnt_tt (fun k _ => Or.inl e), Nat.pow_succ, Nat.mul_comm]
      · have hv := (hk n (by omega)).resolve_left e
        rw [cnt_f (P := fun p => ke p = -1) e, cnt_one (v := (ke n).toNat) (by omega) (fun k _ => ⟨fun z => by have := z.resolve_left e; omega, fun z => Or.inr (by omega)⟩), Nat.one_mul]
    · have e0 : a * H ^ n + r = wiN H r n a := by
        unfold wiN
        rw [Nat.mod_eq_of_lt hr, Nat.div_eq_of_lt hr, Nat.zero_div, Nat.zero_mul, Nat.zero_add]
      have e1 : ∀ p, p < n → dg H (a * H ^ n + r) p = dg H r p := fun p hp => by rw [e0]; exact dg_wi_lt ha hp
      have e2 : dg H (a * H ^ n + r) n = a := by rw [e0]; exact dg_wi_same ha
      refine ⟨fun z => ⟨?_, fun p hp hne => by rw [← e1 p hp]; exact z p (by omega) hne⟩, fun z p hp hne => ?_⟩
      · by_cases e : ke n = -1
        · exact Or.inl e
        · have := z n (by omega) e
          rw [e2] at this
          exact Or.inr this
      · by_cases e : p = n
        · rw [e, e2]; rw [e] at hne; exact z.1.resolve_left hne
        · rw [e1 p (by omega)]; exact z.2 p (by omega) hne
theorem bcnt_c (x : Int) : bcnt x = (cnt (fun k => tbit x k = true) 10 : Nat) := by
  have key : ∀ n : Nat, ((List.range n).filter (fun k => x.toNat.testBit k)).length = cnt (fun k => tbit x k = true) n := by
    intro n
    induction n with
    | zero => rfl
    | succ n ih =>
      rw [List.range_succ, List.filter_append, List.length_append, ih]
      by_cases h : tbit x n = true
      · rw [cnt_t (P := fun k => tbit x k = true) h]
        unfold tbit at h
        simp [h]
      · rw [cnt_f (P := fun k => tbit x k = true) h]
        unfold tbit at h
        simp [h]
  unfold bcnt
  rw [key]
theorem bits_all : ∀ m : Fin 1024, m.val ≠ 0 → 0 ≤ band ((m.val : Nat) : Int) (((m.val : Nat) : Int) - 1) ∧ band ((m.val : Nat) : Int) (((m.val : Nat) : Int) - 1) < ((m.val : Nat) : Int) ∧ bcnt (band ((m.val : Nat) : Int) (((m.val : Nat) : Int) - 1)) + 1 = bcnt ((m.val : Nat) : Int) := by decide +kernel
theorem bits_st {m : Int} (h0 : 0 < m) (h1 : m < 1024) : 0 ≤ band m (m - 1) ∧ band m (m - 1) < m ∧ bcnt (band m (m - 1)) + 1 = bcnt m := by
  have := bits_all ⟨m.toNat, by omega⟩ (by show m.toNat ≠ 0; omega)
  simp only [] at this
  rw [show ((m.toNat : Nat) : Int) = m by omega] at this
  exact this
theorem bcnt_bd (x : Int) : 0 ≤ bcnt x ∧ bcnt x ≤ 10 := by
  rw [bcnt_c]
  have := cnt_bd (fun k => tbit x k = true) 10
  omega
def TS (V : Vy) (w x : Int) : Prop := (10 ≤ w ∧ w < 10 + ha V ∧ x = sl V (w - 10).toNat) ∨ (20 ≤ w ∧ w < 20 + pe V ∧ x = me V (w - 20).toNat) ∨ (40 ≤ w ∧ w ≤ 55 ∧ (w - 40) / 4 < ha V ∧ (w - 40) % 4 < ha V ∧ x = ge V (w - 40).toNat) ∨ (60 ≤ w ∧ w < 60 + pe V ∧ x = ke V (w - 60).toNat) ∨ (¬ (10 ≤ w ∧ w < 10 + ha V) ∧ ¬ (20 ≤ w ∧ w < 20 + pe V) ∧ ¬ (40 ≤ w ∧ w ≤ 55 ∧ (w - 40) / 4 < ha V ∧ (w - 40) % 4 < ha V) ∧ ¬ (60 ≤ w ∧ w < 60 + pe V) ∧ x = -1)
def TOLD (V : Vy) (w x : Int) : Prop := (w = 0 ∧ x = pe V) ∨ (w = 1 ∧ x = ha V) ∨ (w = 2 ∧ frN V x) ∨ (w = 3 ∧ x = an V) ∨ (w = 4 ∧ x = sy V) ∨ (w = 5 ∧ x = (cnt (fun k => isSt V (k : Int)) (cod V).toNat : Nat)) ∨ ((w < 0 ∨ 5 < w) ∧ TS V w x)
section Told
variable {σ τ : St} {Q : Res → St → Prop} {V : Vy} {w : Int}
theorem frN.un {a b : Int} (h : frN V a) (h' : frN V b) : a = b := bits_ext h.1.1 h'.1.1 (fun r => by rw [h.2 r, h'.2 r])
theorem frN.bc {a : Int} (hV : VOK V) (h : frN V a) : bcnt a = (cnt (fun p => ke V p = -1) (pe V).toNat : Nat) := by
  have hpe := hV.pe
  rw [bcnt_c, cnt_ext (P := fun k => tbit a k = true) (n := (pe V).toNat) (m := 10) (by omega) (fun k h1 h2 z => by have := ((h.2 k).mp z).1; omega), cnt_eq (P := fun k => tbit a k = true) (Q := fun p => ke V p = -1) (fun k hk => by rw [h.2 k]; exact ⟨fun z => z.2, fun z => ⟨by omega, z⟩⟩)]
theorem cnt_st (hV : VOK V) {H : Nat} (hH : ha V = (H : Int)) : cnt (fun k => isSt V (k : Int)) (cod V).toNat = H ^ (cnt (fun p => ke V p = -1) (pe V).toNat) := by
  have hha := hV.ha
  have hpe := hV.pe
  have ec := cod_n hH
  rw [← cnt_ok (H := H) (by omega) (ke := ke V) (pe V).toNat (fun p hp => by rw [← hH]; exact hV.ke p (by omega)), show (cod V).toNat = H ^ (pe V).toNat by omega]
  refine cnt_eq (fun s hs => ⟨fun z p hp hne => ?_, fun z => ⟨⟨by omega, by omega⟩, fun p hp hne => ?_⟩⟩)
  · rw [← hab_n hH]; exact z.2 p (by omega) hne
  · rw [hab_n hH]; exact z p (by omega) hne
theorem d_freeSet (hV : VOK V) (hT : MT σ V) (h : ∀ fr, frN V fr → Q (.inl (some (vI fr))) σ) : WP mX13_freeSet 0 [vR 14 0, vU, vU] [] σ Q := by
  have hpe := hV.pe
  refine b_X13_freeSet_0 ?_
  have key : ∀ m p : Nat, ((m + p : Nat) : Int) = pe V → ∀ x : Int, (0 ≤ x ∧ x < 1024) → (∀ q, tbit x q = true ↔ q < p ∧ ke V q = -1) → WP mX13_freeSet 4 [vR 14 0, vI x, vI (p : Int)] [] σ Q := by
    intro m
    induction m with
    | zero =>
      intro p hp x hx hb
      refine b_X13_freeSet_4 ⟨fun _ => h x ⟨hx, fun q => ?_⟩, fun z => by rw [hT.1] at z; omega⟩
      rw [hb q]; exact ⟨fun z => ⟨by omega, z.2⟩, fun z => ⟨by omega, z.2⟩⟩
    | succ m ih =>
      intro p hp x hx hb
      refine b_X13_freeSet_4 ?_
      rw [hT.1, Int.toNat_natCast, hT.2.2.2.2.2.2.1 p (by omega)]
      refine ⟨fun z => by omega, fun _ => ⟨by omega, fun hne => ⟨by unfold in32; omega, ?_⟩, fun he => ⟨by unfold in32; omega, ?_⟩⟩⟩
      · obtain ⟨n, rfl⟩ : ∃ n : Nat, x = n := ⟨x.toNat, by omega⟩
        have e : bor (n : Int) 0 = (n : Int) := by
          have := bor_n (a := n) (b := 0) (by rw [Nat.or_zero]; omega)
          rw [Nat.or_zero] at this
          exact this
        rw [e]
        refine ih (p + 1) (by omega) _ hx (fun q => ?_)
        rw [hb q]
        refine ⟨fun z => ⟨by omega, z.2⟩, fun z => ⟨?_, z.2⟩⟩
        by_cases e : q = p
        · rw [e] at z; exact absurd z.2 hne
        · omega
      · rw [bor1 hx.1 (by omega) (by omega) (by omega), Int.toNat_natCast]
        have hbd := sadd_bd (m := x) (q := p) (n := 10) (by show x.toNat < 1024; omega) (by omega)
        refine ih (p + 1) (by omega) _ ⟨hbd.1, ?_⟩ (fun q => ?_)
        · have : (sadd x p).toNat < 1024 := hbd.2
          omega
        · rw [sadd_bit, hb q]
          refine ⟨fun z => ?_, fun z => ?_⟩
          · rcases z with z | z
            · exact ⟨by omega, z.2⟩
            · rw [z]; exact ⟨by omega, he⟩
          · by_cases e : q = p
            · exact Or.inr e
            · exact Or.inl ⟨by omega, z.2⟩
  exact key (pe V).toNat 0 (by omega) 0 ⟨by omega, by omega⟩ (fun q => ⟨fun z => absurd z (tbit_0 q), fun z => by omega⟩)
theorem d_bits {m : Int} (h0 : 0 ≤ m) (h1 : m < 1024) (h : Q (.inl (some (vI (bcnt m)))) σ) : WP mX13_bits 0 [vI m, vU, vU] [] σ Q := by
  refine b_X13_bits_0 ?_
  have hb := bcnt_bd m
  have key : ∀ (N : Nat) (c x : Int), x.toNat < N → (0 ≤ x ∧ x < 1024) → 0 ≤ c → c + bcnt x = bcnt m → WP mX13_bits 4 [vU, vI c, vI x] [] σ Q := by
    intro N
    induction N with
    | zero => intro c x hN; omega
    | succ N ih =>
      intro c x hN hx hc he
      have hbx := bcnt_bd x
      refine b_X13_bits_4 ⟨fun z => ?_, fun z => ?_⟩
      · rw [z, show bcnt 0 = 0 from rfl] at he
        rw [show c = bcnt m by omega]; exact h
      · have := bits_st (m := x) (by omega) hx.2
        exact ⟨by unfold in32; omega, by unfold in32; omega, ih _ _ (by omega) ⟨by omega, by omega⟩ (by omega) (by omega)⟩
  exact key (m.toNat + 1) 0 m (by omega) ⟨h0, h1⟩ (by omega) (by omega)
theorem d_power {H n : Nat} (hH : 2 ≤ H) (hH4 : H ≤ 4) (hn : H ^ n ≤ 1024) (hn2 : n ≤ 10) (h : Q (.inl (some (vI ((H ^ n : Nat) : Int)))) σ) : WP mX13_power 0 [vI (H : Int), vI (n : Int), vU, vU] [] σ Q := by
  refine b_X13_power_0 ?_
  have key : ∀ m k : Nat, m + k = n → WP mX13_power 4 [vI (H : Int), vI (n : Int), vI ((H ^ k : Nat) : Int), vI (k : Int)] [] σ Q := by
    intro m
    induction m with
    | zero =>
      intro k hk
      refine b_X13_power_4 ⟨fun _ => ?_, fun z => by omega⟩
      rw [show k = n by omega]; exact h
    | succ m ih =>
      intro k hk
      have hp : H ^ (k + 1) ≤ H ^ n := Nat.pow_le_pow_right (by omega) (by omega)
      have e : ((H ^ k : Nat) : Int) * (H : Int) = ((H ^ (k + 1) : Nat) : Int) := by rw [Nat.pow_succ]; push_cast; rfl
      refine b_X13_power_4 ?_
      rw [e]
      refine ⟨fun z => by omega, fun _ => ⟨by unfold in32; omega, by unfold in32; omega, ?_⟩⟩
      rw [show min 2048 ((H ^ (k + 1) : Nat) : Int) = ((H ^ (k + 1) : Nat) : Int) by omega]
      exact ih (k + 1) (by omega)
  exact key n 0 (by omega)
theorem TS.un {x y : Int} (hV : VOK V) (h : TS V w x) (h' : TS V w y) : x = y := by
  have hpe := hV.pe
  have hha := hV.ha
  unfold TS at h h'
  rcases h with ⟨a, b, c⟩ | ⟨a, b, c⟩ | ⟨a, b, c, d, e⟩ | ⟨a, b, c⟩ | ⟨a, b, c, d, e⟩ <;> rcases h' with ⟨a', b', c'⟩ | ⟨a', b', c'⟩ | ⟨a', b', c', d', e'⟩ | ⟨a', b', c'⟩ | ⟨a', b', c', d', e'⟩ <;> omega
theorem TOLD.un {x y : Int} (hV : VOK V) (h : TOLD V w x) (h' : TOLD V w y) : x = y := by
  rcases h with ⟨a, b⟩ | ⟨a, b⟩ | ⟨a, b⟩ | ⟨a, b⟩ | ⟨a, b⟩ | ⟨a, b⟩ | ⟨a, b⟩ <;> rcases h' with ⟨a', b'⟩ | ⟨a', b'⟩ | ⟨a', b'⟩ | ⟨a', b'⟩ | ⟨a', b'⟩ | ⟨a', b'⟩ | ⟨a', b'⟩ <;> first | omega | (exact b.un b') | (exact b.un hV b') | (rw [b, b'])
theorem c_told1 (hV : VOK V) (hT : VT σ 0 V) (hw : in32 w) (h : ∀ x, TS V w x → Q (.inl (some (vI x))) σ) : WP mX11_toldOfOne 0 [vR 10 0, vI w, vU, vU] [] σ Q := by
  have hpe := hV.pe
  have hha := hV.ha
  unfold in32 at hw
  have p54 : ¬ (10 ≤ w ∧ w < 10 + ha V) → ¬ (20 ≤ w ∧ w < 20 + pe V) → WP mX11_toldOfOne 54 [vR 10 0, vI w, vU, vU] [] σ Q := fun n1 n2 => by
    refine b_X11_toldOfOne_54 ?_
    rw [hT.pe, hT.ha]
    have no : ¬ (40 ≤ w ∧ w ≤ 55 ∧ (w - 40) / 4 < ha V ∧ (w - 40) % 4 < ha V) → ¬ (60 ≤ w ∧ w < 60 + pe V) → Q (.inl (some (vI (-1)))) σ := fun n3 n4 => h _ (Or.inr (Or.inr (Or.inr (Or.inr ⟨n1, n2, n3, n4, rfl⟩))))
    refine ⟨fun z1 => ⟨fun z2 => ⟨by unfold in32; omega, by omega, by unfold in32; omega, by omega, fun z3 => no (by omega) (by omega), fun z3 => ⟨fun z4 => no (by omega) (by omega), fun z4 => ⟨by unfold in32; omega, by unfold in32; omega, by omega, ?_⟩⟩⟩, fun z2 => no (by omega) (by omega)⟩, fun z1 => ⟨by unfold in32; omega, fun z2 => no (by omega) (by omega), fun z2 => ⟨by unfold in32; omega, by omega, ?_⟩⟩⟩
    · rw [show ((w - 40) / 4 * 4 + (w - 40) % 4) = w - 40 by omega, hT.ge _ (by omega)]
      exact h _ (Or.inr (Or.inr (Or.inl ⟨z2, by omega, by omega, by omega, rfl⟩)))
    · rw [hT.ke _ (by omega)]
      exact h _ (Or.inr (Or.inr (Or.inr (Or.inl ⟨z1, by omega, rfl⟩))))
  have p27 : ¬ (10 ≤ w ∧ w < 10 + ha V) → WP mX11_toldOfOne 27 [vR 10 0, vI w, vU, vU] [] σ Q := fun n1 => by
    refine b_X11_toldOfOne_27 ?_
    rw [hT.pe]
    refine ⟨fun z => p54 n1 (by omega), fun z => ⟨by unfold in32; omega, fun z2 => p54 n1 (by omega), fun z2 => ⟨by unfold in32; omega, by omega, ?_⟩⟩⟩
    rw [hT.me _ (by omega)]
    exact h _ (Or.inr (Or.inl ⟨z, by omega, rfl⟩))
  refine b_X11_toldOfOne_0 ?_
  rw [hT.ha]
  refine ⟨fun z => p27 (by omega), fun z => ⟨by unfold in32; omega, fun z2 => p27 (by omega), fun z2 => ⟨by unfold in32; omega, by omega, ?_⟩⟩⟩
  rw [hT.sl _ (by omega)]
  exact h _ (Or.inl ⟨z, by omega, rfl⟩)
theorem pr_told (hw : in32 w) (hI : INV V σ) : PRC mX11_told mX13_told [vR 12 0, vI w, vU] [vR 14 0, vI w] σ := by
  have hV := hI.1.1
  have hpe := hV.pe
  have hha := hV.ha
  have hsy := hV.sy
  refine PRC.mk (R := TOLD V w) (R' := TOLD V w) hI (fun Q h => ?_) (fun τ Q h1 h2 h => ?_) (fun x y h1 h2 => h1.un hV h2)
  · have hA := hI.1.2.1
    have hT := hA.1
    have go : ∀ x, TOLD V w x → Q (.inl (some (vI x))) σ := fun x hx => h σ x FR.rf hI.2.2.2.1 hI.2.2.2.2.1 hx
    refine b_X11_told_0 ?_
    rw [hT.pe, hT.ha, hT.an, hT.sy]
    refine ⟨fun z => go _ (Or.inl ⟨z, rfl⟩), fun z => go _ (Or.inr (Or.inl ⟨z, rfl⟩)), fun z => go _ (Or.inr (Or.inr (Or.inl ⟨z, hA.2.2.1.1, hA.2.2.1.2.1⟩))), fun z => go _ (Or.inr (Or.inr (Or.inr (Or.inl ⟨z, rfl⟩)))), fun z => ⟨fun q => go _ (Or.inr (Or.inr (Or.inr (Or.inr (Or.inl ⟨z, q.symm⟩))))), fun q => go _ (Or.inr (Or.inr (Or.inr (Or.inr (Or.inl ⟨z, by omega⟩)))))⟩, fun z => go _ (Or.inr (Or.inr (Or.inr (Or.inr (Or.inr (Or.inl ⟨z, hA.2.2.2.1.2.2.2.2⟩)))))), fun z => ?_⟩
    refine c_told1 hV hT hw (fun x hx => ?_)
    exact b_X11_told_91 (go _ (Or.inr (Or.inr (Or.inr (Or.inr (Or.inr (Or.inr ⟨z, hx⟩)))))))
  · have hT := h1.2.2.1
    have go : ∀ x, TOLD V w x → Q (.inl (some (vI x))) τ := fun x hx => h τ x FR.rf h2 hx
    have gt : ∀ x, (w < 0 ∨ 5 < w) → TS V w x → Q (.inl (some (vI x))) τ := fun x z hx => go x (Or.inr (Or.inr (Or.inr (Or.inr (Or.inr (Or.inr ⟨z, hx⟩))))))
    unfold in32 at hw
    refine b_X13_told_0 ?_
    rw [hT.1, hT.2.1, h1.2.2.2.1, hT.2.2.1]
    have no : ¬ (10 ≤ w ∧ w < 10 + ha V) → ¬ (20 ≤ w ∧ w < 20 + pe V) → ¬ (40 ≤ w ∧ w ≤ 55 ∧ (w - 40) / 4 < ha V ∧ (w - 40) % 4 < ha V) → ¬ (60 ≤ w ∧ w < 60 + pe V) → (w < 0 ∨ 5 < w) → Q (.inl (some (vI (-1)))) τ := fun n1 n2 n3 n4 n5 => gt _ n5 (Or.inr (Or.inr (Or.inr (Or.inr ⟨n1, n2, n3, n4, rfl⟩))))
    refine ⟨by unfold in64; omega, fun n1 => ⟨by unfold in64; omega, fun n2 => ⟨fun n3 => ⟨by unfold in64; omega, fun n4 => ⟨fun z => go _ (Or.inl ⟨z, rfl⟩), fun z => go _ (Or.inr (Or.inl ⟨z, rfl⟩)), fun z => d_freeSet hV hT (fun fr hf => b_X13_told_194 (go _ (Or.inr (Or.inr (Or.inl ⟨z, hf⟩))))), fun z => go _ (Or.inr (Or.inr (Or.inr (Or.inl ⟨z, rfl⟩)))), fun z => ⟨fun q => go _ (Or.inr (Or.inr (Or.inr (Or.inr (Or.inl ⟨z, q.symm⟩))))), fun q => go _ (Or.inr (Or.inr (Or.inr (Or.inr (Or.inl ⟨z, by omega⟩)))))⟩, fun z => ?_, fun z => no (by omega) (by omega) (by omega) (by omega) z⟩, fun n4 => ⟨by unfold in32; omega, by omega, ?_⟩⟩, fun n3 => ⟨by unfold in32; omega, by omega, fun z1 => no (by omega) (by omega) (by omega) (by omega) (by omega), fun z1 => ⟨by omega, fun z2 => no (by omega) (by omega) (by omega) (by omega) (by omega), fun z2 => ⟨by unfold in32; omega, by omega, ?_⟩⟩⟩⟩, fun n2 => ⟨by unfold in32; omega, by omega, ?_⟩⟩, fun n1 => ⟨by unfold in32; omega, by omega, ?_⟩⟩
    · refine d_freeSet hV hT (fun fr hf => ?_)
      show WP mX13_told 221 [vU, vU] [vI fr, vI (ha V)] τ Q
      refine b_X13_told_221 (d_bits hf.1.1 hf.1.2 ?_)
      show WP mX13_told 224 [vU, vU] [vI (bcnt fr), vI (ha V)] τ Q
      obtain ⟨H, hH, hb1, hb2⟩ := hN hV
      have hcs := cnt_st hV hH
      have hbc := hf.bc hV
      have hbb := bcnt_bd fr
      have hcod := hV.cod
      have hcl := cnt_bd (fun k => isSt V (k : Int)) (cod V).toNat
      rw [hbc, hH]
      refine b_X13_told_224 (d_power hb1 hb2 (by omega) (by omega) ?_)
      refine b_X13_told_227 (go _ (Or.inr (Or.inr (Or.inr (Or.inr (Or.inr (Or.inl ⟨z, ?_⟩)))))))
      rw [hcs]
    · rw [hT.2.2.2.2.2.2.1 _ (by omega)]
      exact gt _ (by omega) (Or.inr (Or.inr (Or.inr (Or.inl ⟨n4.1, by omega, rfl⟩))))
    · have hg := (hT.2.2.2.1 ((w - 40) / 4).toNat ((w - 40) % 4).toNat (by omega) (by omega)).1
      rw [h1.2.2.2.2.1, if_neg (fun z => by omega), show 4 * ((w - 40) / 4).toNat + ((w - 40) % 4).toNat = (w - 40).toNat by omega, Int.add_zero] at hg
      rw [hg]
      exact gt _ (by omega) (Or.inr (Or.inr (Or.inl ⟨n3.1, n3.2, z1, by omega, rfl⟩)))
    · rw [hT.2.2.2.2.2.1 _ (by omega)]
      exact gt _ (by omega) (Or.inr (Or.inl ⟨n2.1, by omega, rfl⟩))
    · rw [hT.2.2.2.2.1 _ (by omega)]
      exact gt _ (by omega) (Or.inl ⟨n1.1, by omega, rfl⟩)
end Told
