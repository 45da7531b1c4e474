/-! ===== run: draws, bits one by one, a step ===== -/
theorem lshr16 {x : Int} (h0 : 0 ≤ x) (h1 : x < 2147483648) : lshrI x 16 = x / 65536 := by
  unfold lshrI
  have e : ((Int32.ofInt 16).toInt64 &&& 63) = (16 : Int64) := by decide
  rw [e]
  show ((Int64.ofInt x >>> (16 : Int64)).toBitVec).toInt = x / 65536
  rw [Int64.toBitVec_shiftRight]
  have e2 : ((16 : Int64).toBitVec.smod 64).toNat = 16 := by decide
  rw [BitVec.sshiftRight_eq', e2, BitVec.toInt_sshiftRight]
  have e3 : (Int64.ofInt x).toBitVec.toInt = x := i64_of (by omega) (by omega)
  rw [e3, Int.shiftRight_eq_div_pow]
  rfl
def lcg (x : Int) : Int := (1103515245 * x + 12345) % 2147483648
def drw (x : Int) : Int := lcg x / 65536
theorem lcg_bd (x : Int) : 0 ≤ lcg x ∧ lcg x < 2147483648 := by unfold lcg; omega
theorem drw_bd (x : Int) : 0 ≤ drw x ∧ drw x < 32768 := by have := lcg_bd x; unfold drw; omega
def NTB (m : Int) (k p : Nat) : Prop := tbit m p = true ∧ cnt (fun r => tbit m r = true) p = k
noncomputable def nbF (m : Int) (k : Nat) : Nat := @dite Nat (∃ p, NTB m k p) (Classical.propDecidable _) (fun h => Classical.choose h) (fun _ => 0)
theorem NTB.un {m : Int} {k p r : Nat} (a : NTB m k p) (b : NTB m k r) : p = r := by
  have h1 := fun z : p < r => cnt_slt (P := fun r => tbit m r = true) z a.1
  have h2 := fun z : r < p => cnt_slt (P := fun r => tbit m r = true) z b.1
  have := a.2
  have := b.2
  rcases Nat.lt_trichotomy p r with z | z | z
  · have := h1 z; omega
  · exact z
  · have := h2 z; omega
theorem nb_eq {m : Int} {k p : Nat} (a : NTB m k p) : p = nbF m k := by
  unfold nbF
  rw [dif_pos ⟨p, a⟩]
  exact a.un (Classical.choose_spec (⟨p, a⟩ : ∃ p, NTB m k p))
theorem nb_ex {m : Int} {k : Nat} (hk : (k : Int) < bcnt m) : ∃ p, p < 10 ∧ NTB m k p := by
  rw [bcnt_c] at hk
  obtain ⟨b, b1, b2', b3⟩ := cnt_sel (P := fun r => tbit m r = true) (c := k) (n := 10) (by omega)
  exact ⟨b, b1, b2', b3⟩
section Run
variable {σ : St} {Q : Res → St → Prop} {V : Vy} {i j : Nat}
theorem c_bitAt {m : Int} {k : Nat} (hm : 0 ≤ m ∧ m < 1024) (hk : (k : Int) < bcnt m) (h : nbF m k < 10 → tbit m (nbF m k) = true → Q (.inl (some (vI (nbF m k : Nat)))) σ) : WP mX10_bitAt 0 [vI m, vI (k : Int), vU, vU] [] σ Q := by
  obtain ⟨p, p1, p2⟩ := nb_ex hk
  have e := nb_eq p2
  refine b_X10_bitAt_0 ?_
  have key : ∀ r y : Nat, r + y = p → ∀ l : Int, l = (k : Int) - (cnt (fun r => tbit m r = true) y : Nat) → WP mX10_bitAt 4 [vI m, vU, vI l, vI (y : Int)] [] σ Q := by
    intro r
    induction r with
    | zero =>
      intro y hy l hl
      have hyp : y = p := by omega
      subst hyp
      refine b_X10_bitAt_4 ?_
      rw [band_eq0 hm.1 hm.2 (by omega) (by omega), band_ne hm.1 hm.2 (by omega) (by omega), Int.toNat_natCast]
      refine ⟨fun z => by omega, fun _ => ⟨fun z => absurd p2.1 z, fun _ => ⟨fun z => ?_, fun _ => ?_⟩⟩⟩
      · have := p2.2; omega
      · have := h (by omega) (by rw [← e]; exact p2.1)
        rw [← e] at this
        exact this
    | succ r ih =>
      intro y hy l hl
      refine b_X10_bitAt_4 ?_
      rw [band_eq0 hm.1 hm.2 (by omega) (by omega), band_ne hm.1 hm.2 (by omega) (by omega), Int.toNat_natCast]
      refine ⟨fun z => by omega, fun _ => ⟨fun z => ⟨by unfold in32; omega, ih (y + 1) (by omega) l (by rw [cnt_f (P := fun r => tbit m r = true) z]; exact hl)⟩, fun z => ⟨fun _ => ?_, fun z2 => ?_⟩⟩⟩
      · have hb := cnt_bd (fun r => tbit m r = true) y
        have hkb := bcnt_bd m
        refine ⟨by unfold in32; omega, by unfold in32; omega, ih (y + 1) (by omega) _ ?_⟩
        rw [cnt_t (P := fun r => tbit m r = true) z]
        push_cast
        omega
      · have := cnt_slt (P := fun r => tbit m r = true) (a := y) (b := p) (by omega) z
        have := p2.2
        omega
  exact key p 0 (by omega) _ (by rw [show cnt (fun r => tbit m r = true) 0 = 0 from rfl]; omega)
theorem d_oneOf {m : Int} {k : Nat} (hm : 0 ≤ m ∧ m < 1024) (hk : (k : Int) < bcnt m) (h : nbF m k < 10 → tbit m (nbF m k) = true → Q (.inl (some (vI (nbF m k : Nat)))) σ) : WP mX13_oneOf 0 [vI m, vI (k : Int), vU, vU] [] σ Q := by
  obtain ⟨p, p1, p2⟩ := nb_ex hk
  have e := nb_eq p2
  refine b_X13_oneOf_0 ?_
  have key : ∀ r y : Nat, r + y = p → ∀ l : Int, l = (k : Int) - (cnt (fun r => tbit m r = true) y : Nat) → WP mX13_oneOf 4 [vI m, vU, vI l, vI (y : Int)] [] σ Q := by
    intro r
    induction r with
    | zero =>
      intro y hy l hl
      have hyp : y = p := by omega
      subst hyp
      refine b_X13_oneOf_4 ⟨fun z => ?_, fun _ => ⟨fun _ => ?_, fun z => ?_⟩⟩
      · rw [band_eq0 hm.1 hm.2 (by omega) (by omega), Int.toNat_natCast] at z
        exact absurd p2.1 z
      · have := h (by omega) (by rw [← e]; exact p2.1)
        rw [← e] at this
        exact this
      · have := p2.2; omega
    | succ r ih =>
      intro y hy l hl
      have hb := cnt_bd (fun r => tbit m r = true) y
      have hkb := bcnt_bd m
      refine b_X13_oneOf_4 ⟨fun z => ?_, fun z => ⟨fun z2 => ?_, fun z2 => ?_⟩⟩
      · have z' := z
        rw [band_eq0 hm.1 hm.2 (by omega) (by omega), Int.toNat_natCast] at z'
        rw [z]
        refine ⟨by unfold in32; omega, by unfold in32; omega, ih (y + 1) (by omega) _ ?_⟩
        rw [cnt_f (P := fun r => tbit m r = true) z']; omega
      · rw [band_ne hm.1 hm.2 (by omega) (by omega), Int.toNat_natCast] at z
        have := cnt_slt (P := fun r => tbit m r = true) (a := y) (b := p) (by omega) z
        have := p2.2
        omega
      · rw [band_ne hm.1 hm.2 (by omega) (by omega), Int.toNat_natCast] at z
        have e1 : band (shr m (y : Int)) 1 = 1 := by rw [band_eq1 hm.1 hm.2 (by omega) (by omega), Int.toNat_natCast]; exact z
        rw [e1]
        refine ⟨by unfold in32; omega, by unfold in32; omega, ih (y + 1) (by omega) _ ?_⟩
        rw [cnt_t (P := fun r => tbit m r = true) z]
        push_cast
        omega
  exact key p 0 (by omega) _ (by rw [show cnt (fun r => tbit m r = true) 0 = 0 from rfl]; omega)
theorem c_draws (h0 : 0 ≤ σ 11 i 7 ∧ σ 11 i 7 < 2147483648) (h : Q (.inl (some (vI (drw (σ 11 i 7))))) (up σ 11 i 7 (lcg (σ 11 i 7)))) : WP mX10_draw 0 [vR 11 i] [] σ Q := by
  have hb := drw_bd (σ 11 i 7)
  have hl := lcg_bd (σ 11 i 7)
  unfold drw at h hb
  unfold lcg at h hb hl
  exact b_X10_draw_0 ⟨by unfold in64; omega, by unfold in64; omega, by omega, by omega, by unfold in32; omega, h⟩
theorem d_draws (h0 : 0 ≤ σ 14 0 72 ∧ σ 14 0 72 < 2147483648) (h : Q (.inl (some (vI (drw (σ 14 0 72))))) (up σ 14 0 72 (lcg (σ 14 0 72)))) : WP mX13_draw 0 [vR 14 0] [] σ Q := by
  have hb := drw_bd (σ 14 0 72)
  have hl := lcg_bd (σ 14 0 72)
  refine b_X13_draw_0 ?_
  rw [lshr16 (show 0 ≤ (1103515245 * σ 14 0 72 + 12345) % 2147483648 by omega) (by omega)]
  unfold drw at h hb
  unfold lcg at h hb hl
  exact ⟨by unfold in64; omega, by unfold in64; omega, by omega, by unfold in32; omega, h⟩
end Run
/-- a walk: STATE, slips, cost, in rest, by whom -/
abbrev Wk : Type := Int × Int × Int × Int × (Nat → Int)
def wst (V : Vy) (home : Int → Int) (w : Wk) (p : Nat) (h : Int) : Wk := (wi V w.1 p h, (if tbit (ans V w.1 p) h.toNat = true then w.2.1 else w.2.1 + 1), (if tbit (ans V w.1 p) h.toNat = true then w.2.2.1 else w.2.2.1 + sl V h.toNat), (if home (wi V w.1 p h) = -1 then w.2.2.2.1 else w.2.2.2.1 + 1), fun q => if q = p then w.2.2.2.2 q + 1 else w.2.2.2.2 q)
def wbd (V : Vy) (n : Nat) (w : Wk) : Prop := isSt V w.1 ∧ (0 ≤ w.2.1 ∧ w.2.1 ≤ n) ∧ (0 ≤ w.2.2.1 ∧ w.2.2.1 ≤ 3 * n) ∧ (0 ≤ w.2.2.2.1 ∧ w.2.2.2.1 ≤ n) ∧ ∀ q, 0 ≤ w.2.2.2.2 q ∧ w.2.2.2.2 q ≤ n
def CW (σ : St) (i : Nat) (w : Wk) : Prop := σ 11 i 1 = w.1 ∧ σ 11 i 2 = w.2.1 ∧ σ 11 i 3 = w.2.2.1 ∧ σ 11 i 4 = w.2.2.2.1 ∧ ∀ q, q < 10 → σ 62 i q = w.2.2.2.2 q
section Step
variable {σ : St} {Q : Res → St → Prop} {V : Vy} {i j : Nat} {home : Int → Int} {w : Wk} {n : Nat}
theorem wbd.st {p : Nat} {h : Int} (hV : VOK V) (hw : wbd V n w) (hp : (p : Int) < pe V) (hk : ke V p = -1) (hh : 0 ≤ h ∧ h < ha V) : wbd V (n + 1) (wst V home w p h) := by
  obtain ⟨w1, w2, w3, w4, w5⟩ := hw
  have hha := hV.ha
  have hsl := hV.sl h.toNat (by omega)
  unfold wst
  refine ⟨isSt_wi hV w1 hp hk hh.1 hh.2, ?_, ?_, ?_, fun q => ?_⟩
  · show 0 ≤ (if tbit (ans V w.1 p) h.toNat = true then w.2.1 else w.2.1 + 1) ∧ (if tbit (ans V w.1 p) h.toNat = true then w.2.1 else w.2.1 + 1) ≤ ((n + 1 : Nat) : Int)
    split <;> (push_cast; omega)
  · show 0 ≤ (if tbit (ans V w.1 p) h.toNat = true then w.2.2.1 else w.2.2.1 + sl V h.toNat) ∧ (if tbit (ans V w.1 p) h.toNat = true then w.2.2.1 else w.2.2.1 + sl V h.toNat) ≤ 3 * ((n + 1 : Nat) : Int)
    split <;> (push_cast; omega)
  · show 0 ≤ (if home (wi V w.1 p h) = -1 then w.2.2.2.1 else w.2.2.2.1 + 1) ∧ (if home (wi V w.1 p h) = -1 then w.2.2.2.1 else w.2.2.2.1 + 1) ≤ ((n + 1 : Nat) : Int)
    split <;> (push_cast; omega)
  · have := w5 q
    show 0 ≤ (if q = p then w.2.2.2.2 q + 1 else w.2.2.2.2 q) ∧ (if q = p then w.2.2.2.2 q + 1 else w.2.2.2.2 q) ≤ ((n + 1 : Nat) : Int)
    split <;> (push_cast; omega)
theorem c_step {p : Nat} {h : Int} (hV : VOK V) (hA : VA σ j V) (hR : REP σ j V) (hhm : ∀ s, isSt V s → hm σ j s = home s) (hn : n ≤ 5000) (hw : wbd V n w) (hp : (p : Int) < pe V) (hk : ke V p = -1) (hh : 0 ≤ h ∧ h < ha V) (hC : CW σ i w) (hQ : ∀ τ, FR (fun c i' k => i' = i ∧ ((c = 11 ∧ 1 ≤ k ∧ k ≤ 4) ∨ c = 62)) σ τ → CW τ i (wst V home w p h) → Q (.inl none) τ) : WP mX10_step 0 [vR 11 i, vR 2 j, vI (p : Int), vI h] [] σ Q := by
  have hpe := hV.pe
  have hha := hV.ha
  obtain ⟨w1, w2, w3, w4, w5⟩ := hw
  obtain ⟨c1, c2, c3, c4, c5⟩ := hC
  obtain ⟨T, P, F, L, M⟩ := hA
  have hsb := st_bd hV w1
  have hrow := hR w.1 w1 p hp
  have hb1 := hab_bd hV w.1 p
  have hb2 := ans_bd hV w.1 (p := p) hp
  have hsl := hV.sl h.toNat (by omega)
  have hpw := pw_pos hV p
  have hwi := isSt_wi hV w1 hp hk hh.1 hh.2
  have hwb := st_bd hV hwi
  have eW : w.1 + (h - w.1 / ha V ^ p % ha V) * ha V ^ p = wi V w.1 p h := rfl
  have eH : w.1 / ha V ^ p % ha V = hab V w.1 p := rfl
  -- behind the slip
  have s47 : ∀ υ : St, FR (fun c i' k => i' = i ∧ c = 11 ∧ (k = 2 ∨ k = 3)) σ υ → υ 11 i 2 = (wst V home w p h).2.1 → υ 11 i 3 = (wst V home w p h).2.2.1 → WP mX10_step 47 [vR 11 i, vR 2 j, vI (p : Int), vI h] [] υ Q := fun υ f1 e2 e3 => by
    have g : ∀ c i' k, ¬ (i' = i ∧ c = 11 ∧ (k = 2 ∨ k = 3)) → υ c i' k = σ c i' k := fun c i' k q => f1 c i' k q
    have e1 : υ 11 i 1 = w.1 := by rw [g 11 i 1 (by omega)]; exact c1
    have e4 : υ 11 i 4 = w.2.2.2.1 := by rw [g 11 i 4 (by omega)]; exact c4
    have e62 : ∀ q, q < 10 → υ 62 i q = w.2.2.2.2 q := fun q hq => by rw [g 62 i q (by omega)]; exact c5 q hq
    have e27 : υ 27 j (wi V w.1 p h).toNat = home (wi V w.1 p h) := by rw [g 27 j _ (by omega)]; exact hhm _ hwi
    have w5p := w5 p
    refine b_X10_step_47 ?_
    rw [e1, Int.toNat_natCast, g 60 j p (by omega), g 10 j 1 (by omega), P.1 p (by omega), T.ha, eW, e27, eH, e62 p (by omega), e4]
    refine ⟨by omega, by unfold in32; omega, by omega, ⟨by omega, by omega, hsb.1, hpw, Int.ediv_nonneg hsb.1 (Int.le_of_lt hpw), by omega, by unfold in32; omega, by omega, by omega, by unfold wi at hwb; unfold in32; omega, by unfold in32; omega⟩, hwb, fun he => hQ _ ?_ ⟨?_, ?_, ?_, ?_, fun q hq => ?_⟩, fun he => ⟨by unfold in32; omega, hQ _ ?_ ⟨?_, ?_, ?_, ?_, fun q hq => ?_⟩⟩⟩
    · exact ((f1.wk (fun c i' k z => by omega)).u (by omega)).u (by omega)
    · rw [up_s]; rfl
    · rw [up_j (by omega), up_c (by omega)]; exact e2
    · rw [up_j (by omega), up_c (by omega)]; exact e3
    · rw [up_j (by omega), up_c (by omega), e4]
      show w.2.2.2.1 = (if home (wi V w.1 p h) = -1 then w.2.2.2.1 else w.2.2.2.1 + 1)
      rw [if_pos he]
    · rw [up_c (by omega)]
      show _ = (if q = p then w.2.2.2.2 q + 1 else w.2.2.2.2 q)
      by_cases e : q = p
      · rw [if_pos e, e, up_s]
      · rw [if_neg e, up_j e]; exact e62 q hq
    · exact (((f1.wk (fun c i' k z => by omega)).u (by omega)).u (by omega)).u (by omega)
    · rw [up_j (by omega), up_s]; rfl
    · rw [up_j (by omega), up_j (by omega), up_c (by omega)]; exact e2
    · rw [up_j (by omega), up_j (by omega), up_c (by omega)]; exact e3
    · rw [up_s]
      show w.2.2.2.1 + 1 = (if home (wi V w.1 p h) = -1 then w.2.2.2.1 else w.2.2.2.1 + 1)
      rw [if_neg he]
    · rw [up_c (by omega), up_c (by omega)]
      show _ = (if q = p then w.2.2.2.2 q + 1 else w.2.2.2.2 q)
      by_cases e : q = p
      · rw [if_pos e, e, up_s]
      · rw [if_neg e, up_j e]; exact e62 q hq
  refine b_X10_step_0 ?_
  rw [c1, hrow, band15 (by omega) (by omega), show (16 * hab V w.1 p + ans V w.1 p) % 16 = ans V w.1 p by omega, band_ne hb2.1 (by omega) hh.1 (by omega), band_eq0 hb2.1 (by omega) hh.1 (by omega), c2, c3, T.sl h.toNat (by omega)]
  refine ⟨⟨by unfold in32; omega, by unfold in32; omega, by omega, by omega⟩, fun z => s47 σ FR.rf ?_ ?_, fun z => ⟨by unfold in32; omega, by omega, by unfold in32; omega, s47 _ ((FR.rf.u (by omega)).u (by omega)) ?_ ?_⟩⟩
  · rw [c2]; show w.2.1 = (if tbit (ans V w.1 p) h.toNat = true then w.2.1 else w.2.1 + 1); rw [if_pos z]
  · rw [c3]; show w.2.2.1 = (if tbit (ans V w.1 p) h.toNat = true then w.2.2.1 else w.2.2.1 + sl V h.toNat); rw [if_pos z]
  · rw [up_j (by omega), up_s]; show w.2.1 + 1 = (if tbit (ans V w.1 p) h.toNat = true then w.2.1 else w.2.1 + 1); rw [if_neg z]
  · rw [up_s]; show w.2.2.1 + sl V h.toNat = (if tbit (ans V w.1 p) h.toNat = true then w.2.2.1 else w.2.2.1 + sl V h.toNat); rw [if_neg z]
theorem c_begin {s : Int} (hs : isSt V s) (hQ : ∀ τ, FR (fun c i' k => i' = i ∧ ((c = 11 ∧ k ≤ 5) ∨ c = 62)) σ τ → CW τ i (s, 0, 0, 0, fun _ => 0) → τ 11 i 0 = 1 → τ 11 i 5 = 1 → Q (.inl none) τ) : WP mX10_begin 0 [vR 11 i, vI s] [] σ Q := by
  refine b_X10_begin_0 (c_fill (by omega) rfl rfl (by omega) rfl ?_)
  refine b_X10_begin_38 (hQ _ (((((((FR.rf.u (by omega)).u (by omega)).u (by omega)).u (by omega)).u (by omega)).u (by omega)).uR (fun k _ _ => by omega)) ⟨?_, ?_, ?_, ?_, fun q hq => ?_⟩ ?_ ?_)
  · simp [up, upR]
  · simp [up, upR]
  · simp [up, upR]
  · simp [up, upR]
  · unfold upR
    rw [if_pos ⟨rfl, rfl, by omega, by show q < 0 + 10; omega⟩]
  · simp [up, upR]
  · simp [up, upR]
end Step
