/-! ===== that least costs are there ===== -/
theorem least_ex {P : Nat → Prop} (h : ∃ n, P n) : ∃ n, P n ∧ ∀ m, m < n → ¬ P m := by
  obtain ⟨n, hn⟩ := h
  have key : ∀ k n, n < k → P n → ∃ n, P n ∧ ∀ m, m < n → ¬ P m := by
    intro k
    induction k with
    | zero => intro n h; omega
    | succ k ih =>
      intro n hk hn
      by_cases c : ∃ m, m < n ∧ P m
      · obtain ⟨m, m1, m2⟩ := c
        exact ih m (by omega) m2
      · exact ⟨n, hn, fun m hm z => c ⟨m, hm, z⟩⟩
  exact key (n + 1) n (by omega) hn
def DD (V : Vy) (Tg : Int → Prop) (s : Int) (n : Nat) : Prop := ∀ R : Int → Nat → Prop, (∀ s, Tg s → R s 0) → (∀ s t c n, isSt V s → Mv V s t c → R t n → R s (n + (4096 * c + 1).toNat)) → R s n
section DistEx
variable {V : Vy}
theorem DD.inv {Tg : Int → Prop} {s : Int} {n : Nat} (h : DD V Tg s n) : Tg s ∧ n = 0 ∨ ∃ t c m, Mv V s t c ∧ DD V Tg t m ∧ n = m + (4096 * c + 1).toNat := by
  have := h (fun s n => DD V Tg s n ∧ (Tg s ∧ n = 0 ∨ ∃ t c m, Mv V s t c ∧ DD V Tg t m ∧ n = m + (4096 * c + 1).toNat)) (fun s hs => ⟨fun R h1 _ => h1 s hs, Or.inl ⟨hs, rfl⟩⟩) (fun s t c n hs hm ht => ⟨fun R h1 h2 => h2 s t c n hs hm (ht.1 R h1 h2), Or.inr ⟨t, c, n, hm, ht.1, rfl⟩⟩)
  exact this.2
theorem dist_ex (hV : VOK V) {Tg : Int → Prop} {t : Int} (ht : isSt V t) (hT : Tg t) : ∃ F, DIST V Tg F := by
  have hG : ∀ s : Int, ∃ x : Int, ((∃ n, DD V Tg s n) → ∃ n : Nat, x = n ∧ DD V Tg s n ∧ ∀ m, m < n → ¬ DD V Tg s m) ∧ ((¬ ∃ n, DD V Tg s n) → x = 1000000000) := by
    intro s
    by_cases c : ∃ n, DD V Tg s n
    · obtain ⟨n, n1, n2⟩ := least_ex c
      exact ⟨n, fun _ => ⟨n, rfl, n1, n2⟩, fun z => absurd c z⟩
    · exact ⟨1000000000, fun z => absurd z c, fun _ => rfl⟩
  obtain ⟨F, hF⟩ := Classical.axiomOfChoice hG
  have f0 : ∀ s, Tg s → F s = 0 := by
    intro s hs
    have d0 : DD V Tg s 0 := fun R h1 _ => h1 s hs
    obtain ⟨n, n1, n2, n3⟩ := (hF s).1 ⟨0, d0⟩
    by_cases e : n = 0
    · rw [n1, e]; rfl
    · exact absurd d0 (n3 0 (by omega))
  have fst : ∀ s u c, isSt V s → Mv V s u c → (∃ n, DD V Tg u n) → (∃ n, DD V Tg s n) ∧ F s ≤ F u + 4096 * c + 1 := by
    intro s u c hs hm hu
    have hb := hm.bd hV
    obtain ⟨n, n1, n2, n3⟩ := (hF u).1 hu
    have d : DD V Tg s (n + (4096 * c + 1).toNat) := fun R h1 h2 => h2 s u c n hs hm (n2 R h1 h2)
    obtain ⟨m, m1, m2, m3⟩ := (hF s).1 ⟨_, d⟩
    refine ⟨⟨_, d⟩, ?_⟩
    have : ¬ n + (4096 * c + 1).toNat < m := fun z => m3 _ z d
    omega
  have hle := far_le hV ht (f0 t hT) (F := F) (fun s u c hs hm hu => by
    by_cases cu : ∃ n, DD V Tg u n
    · exact (fst s u c hs hm cu).2
    · rw [(hF u).2 cu] at hu; omega)
  have hall : ∀ s, isSt V s → ∃ n, DD V Tg s n := fun s hs => Classical.byContradiction (fun z => by
    have h1 := (hF s).2 z
    have h2 := hle s hs
    omega)
  refine ⟨F, fun s hs => ?_⟩
  obtain ⟨n, n1, n2, n3⟩ := (hF s).1 (hall s hs)
  refine ⟨by omega, f0 s, fun u c hm => (fst s u c hs hm (hall u (hm.st hV hs))).2, fun hn => ?_⟩
  rcases n2.inv with ⟨z, -⟩ | ⟨u, c, m, hm, hd, e⟩
  · exact absurd z hn
  · have hb := hm.bd hV
    obtain ⟨k, k1, k2, k3⟩ := (hF u).1 ⟨m, hd⟩
    have h1 : ¬ m < k := fun z => k3 m z hd
    have h2 := (fst s u c hs hm ⟨m, hd⟩).2
    exact ⟨u, c, hm, by omega⟩
end DistEx
/-! ===== the class' MOVES: beside, price ===== -/
theorem shr_row_all : ∀ h : Fin 4, ∀ a : Fin 16, shr (16 * ((h.val : Nat) : Int) + ((a.val : Nat) : Int)) 4 = ((h.val : Nat) : Int) ∧ band (16 * ((h.val : Nat) : Int) + ((a.val : Nat) : Int)) 15 = ((a.val : Nat) : Int) ∧ ∀ k : Fin 4, band (shr (16 * ((h.val : Nat) : Int) + ((a.val : Nat) : Int)) ((k.val : Nat) : Int)) 1 = if a.val.testBit k.val = true then 1 else 0 := by decide +kernel
section Besides
variable {i j : Nat} {σ : St} {Q : Res → St → Prop} {V : Vy} {s : Int}
theorem row_own (hV : VOK V) {p : Nat} (hp : (p : Int) < pe V) : shr (16 * hab V s p + ans V s p) 4 = hab V s p ∧ band (16 * hab V s p + ans V s p) 15 = ans V s p ∧ ∀ k : Nat, k < 4 → (band (shr (16 * hab V s p + ans V s p) (k : Int)) 1 ≠ 0 ↔ tbit (ans V s p) k = true) := by
  have hb := hab_bd hV s p
  have ab := ans_bd hV s hp
  have hh := hV.ha
  have := shr_row_all ⟨(hab V s p).toNat, by omega⟩ ⟨(ans V s p).toNat, by omega⟩
  simp only [Int.toNat_of_nonneg hb.1, Int.toNat_of_nonneg ab.1] at this
  refine ⟨this.1, this.2.1, fun k hk => ?_⟩
  have h2 := this.2.2 ⟨k, hk⟩
  simp only at h2
  rw [h2]
  unfold tbit
  split <;> simp_all
/-- the expression that beside gives -/
theorem bes_eq (hV : VOK V) (hA : VA σ j V) (hR : REP σ j V) (hs : isSt V s) {k : Nat} (hk : (k : Int) < σ 10 j 13) : ∃ p : Nat, (p : Int) < pe V ∧ ke V p = -1 ∧ σ 58 j k = p ∧ 0 ≤ σ 59 j k ∧ σ 59 j k < ha V ∧ (shr (σ 23 j (((s * 10) + (σ 58 j k)).toNat)) 4) = hab V s p ∧ σ 60 j ((σ 58 j k).toNat) = ha V ^ p ∧ s + (((σ 59 j k) - (shr (σ 23 j (((s * 10) + (σ 58 j k)).toNat)) 4)) * (σ 60 j ((σ 58 j k).toNat))) = wi V s p (σ 59 j k) := by
  obtain ⟨p, p1, p2, p3, p4, p5⟩ := hA.2.2.2.2.2.1 k hk
  have e1 : (shr (σ 23 j (((s * 10) + (σ 58 j k)).toNat)) 4) = hab V s p := by
    rw [p3, hR s hs p p1]
    exact (row_own hV p1).1
  have e2 : σ 60 j ((σ 58 j k).toNat) = ha V ^ p := by
    rw [p3, Int.toNat_natCast]
    exact hA.2.1.1 p (by omega)
  exact ⟨p, p1, p2, p3, p4, p5, e1, e2, by rw [e1, e2]; rfl⟩
theorem prc_eq (hV : VOK V) (hA : VA σ j V) (hR : REP σ j V) (hs : isSt V s) {t : Int} (ht : isSt V t) {p : Nat} (hp : (p : Int) < pe V) : prc σ j s t (p : Int) = (if tbit (ans V s p) (hab V t p).toNat = true then 0 else sl V (hab V t p).toNat) ∧ ownr σ j t (p : Int) = hab V t p := by
  have hb := hab_bd hV t p
  have hh := hV.ha
  have e0 := hR s hs p hp
  have e1 := hR t ht p hp
  have r1 := (row_own hV hp (s := t)).1
  have r2 := (row_own hV hp (s := s)).2.2 (hab V t p).toNat (by omega)
  rw [show ((((hab V t p).toNat : Nat)) : Int) = hab V t p by omega] at r2
  refine ⟨?_, ?_⟩
  · unfold prc
    rw [e0, e1, r1, hA.1.sl _ (by omega)]
    by_cases c : tbit (ans V s p) (hab V t p).toNat = true
    · rw [if_pos (r2.mpr c), if_pos c]
    · rw [if_neg (fun z => c (r2.mp z)), if_neg c]
  · unfold ownr
    rw [e1, r1]
theorem bes_sides (hV : VOK V) (hA : VA σ j V) (hR : REP σ j V) (hs : isSt V s) {k : Nat} (hk : (k : Int) < σ 10 j 13) : 0 ≤ (k : Int) ∧ (k : Int) < 40 ∧ in32 (s * 10) ∧ in32 ((s * 10) + (σ 58 j k)) ∧ 0 ≤ (s * 10) + (σ 58 j k) ∧ ((s * 10) + (σ 58 j k)) < 10240 ∧ 0 ≤ (k : Int) ∧ (k : Int) < 40 ∧ in32 ((σ 59 j k) - (shr (σ 23 j (((s * 10) + (σ 58 j k)).toNat)) 4)) ∧ 0 ≤ σ 58 j k ∧ (σ 58 j k) < 11 ∧ in32 (((σ 59 j k) - (shr (σ 23 j (((s * 10) + (σ 58 j k)).toNat)) 4)) * (σ 60 j ((σ 58 j k).toNat))) ∧ in32 (s + (((σ 59 j k) - (shr (σ 23 j (((s * 10) + (σ 58 j k)).toNat)) 4)) * (σ 60 j ((σ 58 j k).toNat)))) := by
  obtain ⟨p, p1, p2, p3, p4, p5, p6, p7, p8⟩ := bes_eq hV hA hR hs hk
  have hpe := hV.pe
  have hha := hV.ha
  have hb := hab_bd hV s p
  have hsb := st_bd hV hs
  have hm := hA.2.2.2.2.1
  have hw := st_bd hV (isSt_wi hV hs p1 p2 p4 p5)
  rw [← p8] at hw
  refine ⟨by omega, by omega, by unfold in32; omega, by unfold in32; omega, by omega, by omega, by omega, by omega, by rw [p6]; unfold in32; omega, by omega, by omega, by unfold in32; omega, by unfold in32; omega⟩
end Besides
