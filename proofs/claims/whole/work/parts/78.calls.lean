/-! ===== calls that look up: ready, make, and the plain ones ===== -/
def RG (P : Prop) (R : Int → Prop) (x : Int) : Prop := (P ∧ R x) ∨ (¬ P ∧ x = -2)
theorem RG.un {P P' : Prop} {R R' : Int → Prop} {x y : Int} (hP : P ↔ P') (h : ∀ x y, P → R x → R' y → x = y) (h1 : RG P R x) (h2 : RG P' R' y) : x = y := by
  rcases h1 with ⟨a, b⟩ | ⟨a, b⟩
  · rcases h2 with ⟨c, d⟩ | ⟨c, d⟩
    · exact h x y a b d
    · exact absurd (hP.mp a) c
  · rcases h2 with ⟨c, d⟩ | ⟨c, d⟩
    · exact absurd (hP.mpr c) a
    · omega
theorem band15_all : ∀ m : Fin 64, band ((m.val : Nat) : Int) 15 = ((m.val % 16 : Nat) : Int) := by decide +kernel
theorem band15 {m : Int} (h0 : 0 ≤ m) (h1 : m < 64) : band m 15 = m % 16 := by
  have := band15_all ⟨m.toNat, by omega⟩
  simp only [] at this
  rw [show ((m.toNat : Nat) : Int) = m by omega] at this
  rw [this]; omega
section Calls
variable {σ : St} {Q : Res → St → Prop} {V : Vy}
theorem c_readyI (hV : VOK V) (hA : VA σ 0 V) (hL : ILD V σ) (hC : ICC V σ) (h : ∀ τ, FR kC σ τ → VA τ 0 V → REP τ 0 V → RS τ 0 V → RSz τ 0 V → τ 2 0 5 ≠ 0 → ILD V τ → ICC V τ → Q (.inl none) τ) : WP mX1_ready 0 [vR 2 0] [] σ Q := by
  obtain ⟨l1, l2, l3, l4⟩ := hL
  refine c_ready hV hA l1 (fun τ f1 e4 e5 r1 r2 r3 same => ?_)
  have F1 : FR kC σ τ := f1.wk (fun c i j z => by unfold rdP at z; unfold kC; omega)
  have ea : τ 12 0 15 = σ 12 0 15 := f1 12 0 15 (fun z => by unfold rdP at z; omega)
  have e6 : τ 2 0 6 = σ 2 0 6 := f1 2 0 6 (fun z => by unfold rdP at z; omega)
  have F' : σ 2 0 5 ≠ 0 → FR (fun c i j => i = 0 ∧ ((23 ≤ c ∧ c ≤ 26) ∨ (c = 2 ∧ (j = 4 ∨ j = 5)))) σ τ := fun hne c a b z => by
    by_cases e : a = 0 ∧ (c = 5 ∨ (27 ≤ c ∧ c ≤ 36))
    · rw [e.1]; exact same hne c b e.2
    · exact f1 c a b (fun w => by unfold rdP at w; apply z; exact ⟨w.1, by omega⟩)
  refine h τ F1 (hA.fr f1 (fun c k hc z => by unfold rdP at z; omega)) r1 r2 r3 e5 ⟨⟨fun _ => r1, fun _ => ⟨r2, r3⟩⟩, fun z => absurd z e5, ?_, fun z => ⟨e5, ?_⟩⟩ (hC.fr f1 (by unfold rdP; omega))
  · by_cases e : σ 2 0 5 = 0
    · intro k k0 hk
      rw [ea, l2 e] at hk
      omega
    · exact l3.fr (F' e) ⟨by omega, fun k => by omega, fun k => by omega⟩
  · rw [e6] at z
    obtain ⟨q1, q2⟩ := l4 z
    exact q2.fr (F' q1) (fun c j hc z => by omega)
theorem d_makeI (hI : IVV V σ) (hM : IMD V σ) (h : ∀ τ, FR kM σ τ → IVV V τ → MRP τ V → MRS τ V → IMD V τ → Q (.inl none) τ) : WP mX13_make 0 [vR 14 0] [] σ Q := by
  obtain ⟨hV, hA, hT, han, h35, h6⟩ := hI
  refine d_make hV hT han hM (fun τ f1 e r1 r2 _ => ?_)
  have F1 : FR kM σ τ := f1.wk (fun c i j z => by unfold maP at z; unfold kM; omega)
  exact h τ F1 (IVV.fr ⟨hV, hA, hT, han, h35, h6⟩ F1 (by unfold kM; omega)) r1 r2 (fun _ => ⟨r1, r2⟩)
theorem d_isRestI {k : Int} (hI : IVV V σ) (hM : IMD V σ) (h : ∀ τ, FR kM σ τ → IVV V τ → MRP τ V → MRS τ V → IMD V τ → Q (.inl (some (vI (b2 (0 ≤ k ∧ k < τ 14 0 51))))) τ) : WP mX13_isRest 0 [vR 14 0, vI k] [] σ Q := by
  refine b_X13_isRest_0 (d_makeI hI hM (fun τ f1 h1 h2 h3 h4 => ?_))
  show WP mX13_isRest 4 [vR 14 0, vI k] [] τ Q
  have hn := h3.2.1
  have hn0 := h3.1.2.2.2.2
  refine b_X13_isRest_4 ⟨by unfold in64; omega, ?_⟩
  rw [b2_congr (show (0 ≤ k ∧ k ≤ τ 14 0 51 - 1) ↔ (0 ≤ k ∧ k < τ 14 0 51) by omega)]
  exact h τ f1 h1 h2 h3 h4
/-! habit, worth, answers, move -/
theorem pr_habit {s p : Int} (hI : INV V σ) : PRC mX11_habit mX13_habit [vR 12 0, vI s, vI p, vU] [vR 14 0, vI s, vI p] σ := by
  have hV := hI.1.1
  refine PRC.mk (R := RG (isSt V s ∧ 0 ≤ p ∧ p < pe V) (fun x => x = hab V s p.toNat)) (R' := RG (isSt V s ∧ 0 ≤ p ∧ p < pe V) (fun x => x = hab V s p.toNat)) hI (fun Q h => ?_) (fun τ Q h1 h2 h => ?_) (fun x y => RG.un Iff.rfl (fun x y _ a b => by omega))
  · have hA := hI.1.2.1
    have hpe := hV.pe
    have hha := hV.ha
    refine b_X11_habit_0 (c_isState hV hA.1 hA.2.1 ?_)
    show WP mX11_habit 13 [vU, vI s, vI p, vR 10 0] [vI (b2 (isSt V s))] σ Q
    have go : ∀ x, RG (isSt V s ∧ 0 ≤ p ∧ p < pe V) (fun x => x = hab V s p.toNat) x → Q (.inl (some (vI x))) σ := fun x hx => h σ x FR.rf hI.2.2.2.1 hI.2.2.2.2.1 hx
    refine b_X11_habit_13 ⟨fun z => go _ (Or.inr ⟨fun q => b2_eq z q.1, rfl⟩), fun z => ?_⟩
    have hs := b2_ne z
    rw [hA.1.pe, hA.1.ha]
    refine ⟨fun q => go _ (Or.inr ⟨fun w => q w.2, rfl⟩), fun q => ?_⟩
    rw [hA.2.1.1 p.toNat (by omega)]
    have hpp := pw_pos hV p.toNat
    exact ⟨⟨q.1, by omega, hs.1.1, hpp, Int.ediv_nonneg hs.1.1 (Int.le_of_lt hpp), by omega⟩, go _ (Or.inl ⟨⟨hs, q⟩, rfl⟩)⟩
  · have hT := h1.2.2.1
    have hpe := hV.pe
    have hha := hV.ha
    refine b_X13_habit_0 (d_isState hV hT ?_)
    show WP mX13_habit 5 [vR 14 0, vI s, vI p] [vI (b2 (isSt V s))] τ Q
    have go : ∀ x, RG (isSt V s ∧ 0 ≤ p ∧ p < pe V) (fun x => x = hab V s p.toNat) x → Q (.inl (some (vI x))) τ := fun x hx => h τ x FR.rf h2 hx
    refine b_X13_habit_5 ⟨fun z => go _ (Or.inr ⟨fun q => b2_eq z q.1, rfl⟩), fun z => ?_⟩
    have hs := b2_ne z
    rw [hT.1, hT.2.1]
    refine ⟨by unfold in64; omega, fun q => go _ (Or.inr ⟨fun w => q ⟨w.2.1, by omega⟩, rfl⟩), fun q => ?_⟩
    rw [hT.2.2.2.2.2.2.2.1 p.toNat (by omega)]
    have hpp := pw_pos hV p.toNat
    exact ⟨⟨q.1, by omega, hs.1.1, hpp, Int.ediv_nonneg hs.1.1 (Int.le_of_lt hpp), by omega⟩, go _ (Or.inl ⟨⟨hs, q.1, by omega⟩, rfl⟩)⟩
theorem pr_worth {s p : Int} (hI : INV V σ) : PRC mX11_worth mX13_worth [vR 12 0, vI s, vI p, vU] [vR 14 0, vI s, vI p] σ := by
  have hV := hI.1.1
  refine PRC.mk (R := RG (isSt V s ∧ 0 ≤ p ∧ p < pe V) (fun x => x = wor V s p.toNat (hab V s p.toNat))) (R' := RG (isSt V s ∧ 0 ≤ p ∧ p < pe V) (fun x => x = wor V s p.toNat (hab V s p.toNat))) hI (fun Q h => ?_) (fun τ Q h1 h2 h => ?_) (fun x y => RG.un Iff.rfl (fun x y _ a b => by omega))
  · have hA := hI.1.2.1
    have hpe := hV.pe
    refine b_X11_worth_0 (c_isState hV hA.1 hA.2.1 ?_)
    show WP mX11_worth 13 [vU, vI s, vI p, vR 10 0] [vI (b2 (isSt V s))] σ Q
    have go : ∀ x, RG (isSt V s ∧ 0 ≤ p ∧ p < pe V) (fun x => x = wor V s p.toNat (hab V s p.toNat)) x → Q (.inl (some (vI x))) σ := fun x hx => h σ x FR.rf hI.2.2.2.1 hI.2.2.2.2.1 hx
    refine b_X11_worth_13 ⟨fun z => go _ (Or.inr ⟨fun q => b2_eq z q.1, rfl⟩), fun z => ?_⟩
    have hs := b2_ne z
    rw [hA.1.pe]
    refine ⟨fun q => go _ (Or.inr ⟨fun w => q w.2, rfl⟩), fun q => ?_⟩
    obtain ⟨n, rfl⟩ : ∃ n : Nat, p = n := ⟨p.toNat, by omega⟩
    refine c_worthIn hV hA.1 hA.2.1 hs.1.1 q.2 ?_
    exact b_X11_worth_30 (go _ (Or.inl ⟨⟨hs, q⟩, rfl⟩))
  · have hT := h1.2.2.1
    have hpe := hV.pe
    have hha := hV.ha
    refine b_X13_worth_0 (d_isState hV hT ?_)
    show WP mX13_worth 5 [vR 14 0, vI s, vI p] [vI (b2 (isSt V s))] τ Q
    have go : ∀ x, RG (isSt V s ∧ 0 ≤ p ∧ p < pe V) (fun x => x = wor V s p.toNat (hab V s p.toNat)) x → Q (.inl (some (vI x))) τ := fun x hx => h τ x FR.rf h2 hx
    refine b_X13_worth_5 ⟨fun z => go _ (Or.inr ⟨fun q => b2_eq z q.1, rfl⟩), fun z => ?_⟩
    have hs := b2_ne z
    rw [hT.1, hT.2.1]
    refine ⟨by unfold in64; omega, fun q => go _ (Or.inr ⟨fun w => q ⟨w.2.1, by omega⟩, rfl⟩), fun q => ?_⟩
    obtain ⟨n, rfl⟩ : ∃ n : Nat, p = n := ⟨p.toNat, by omega⟩
    rw [hT.2.2.2.2.2.2.2.1 (n : Int).toNat (by omega)]
    have hpp := pw_pos hV (n : Int).toNat
    have hb := hab_bd hV s (n : Int).toNat
    refine ⟨⟨q.1, by omega, hs.1.1, hpp, Int.ediv_nonneg hs.1.1 (Int.le_of_lt hpp), by omega⟩, ?_⟩
    refine d_sumOf hV hT hs.1.1 (by omega) hb.1 hb.2 ?_
    exact b_X13_worth_28 (go _ (Or.inl ⟨⟨hs, q.1, by omega⟩, rfl⟩))
theorem pr_answers {s p : Int} (hI : INV V σ) : PRC mX11_answers mX13_answers [vR 12 0, vI s, vI p] [vR 14 0, vI s, vI p] σ := by
  have hV := hI.1.1
  refine PRC.mk (R := RG (isSt V s ∧ 0 ≤ p ∧ p < pe V) (fun x => x = ans V s p.toNat)) (R' := RG (isSt V s ∧ 0 ≤ p ∧ p < pe V) (fun x => x = ans V s p.toNat)) hI (fun Q h => ?_) (fun τ Q h1 h2 h => ?_) (fun x y => RG.un Iff.rfl (fun x y _ a b => by omega))
  · have hA := hI.1.2.1
    have hpe := hV.pe
    have hha := hV.ha
    refine b_X11_answers_0 (c_isState hV hA.1 hA.2.1 ?_)
    show WP mX11_answers 11 [vR 12 0, vI s, vI p] [vI (b2 (isSt V s))] σ Q
    have go : ∀ x, RG (isSt V s ∧ 0 ≤ p ∧ p < pe V) (fun x => x = ans V s p.toNat) x → Q (.inl (some (vI x))) σ := fun x hx => h σ x FR.rf hI.2.2.2.1 hI.2.2.2.2.1 hx
    refine b_X11_answers_11 ⟨fun z => go _ (Or.inr ⟨fun q => b2_eq z q.1, rfl⟩), fun z => ?_⟩
    have hs := b2_ne z
    rw [hA.1.pe]
    refine ⟨fun q => ?_, fun q => go _ (Or.inr ⟨fun w => q w.2, rfl⟩)⟩
    refine c_readyI hV hA hI.2.2.2.1 hI.2.2.2.2.1 (fun τ f1 t1 t2 t3 t4 t5 t6 t7 => ?_)
    show WP mX11_answers 38 [vR 12 0, vI s, vI p] [] τ Q
    obtain ⟨n, rfl⟩ : ∃ n : Nat, p = n := ⟨p.toNat, by omega⟩
    have hb := st_bd hV hs
    have e := t2 s hs n (by omega)
    have ha1 := ans_bd hV (s := s) (p := n) (by omega)
    have hh := hab_bd hV s n
    refine b_X11_answers_38 ⟨⟨by unfold in32; omega, by unfold in32; omega, by omega, by omega⟩, ?_⟩
    rw [e, band15 (by omega) (by omega), show (16 * hab V s n + ans V s n) % 16 = ans V s n by omega]
    exact h τ _ f1 t6 t7 (Or.inl ⟨⟨hs, q⟩, rfl⟩)
  · have hT := h1.2.2.1
    have hpe := hV.pe
    refine b_X13_answers_0 (d_isState hV hT ?_)
    show WP mX13_answers 5 [vR 14 0, vI s, vI p] [vI (b2 (isSt V s))] τ Q
    have go : ∀ x, RG (isSt V s ∧ 0 ≤ p ∧ p < pe V) (fun x => x = ans V s p.toNat) x → Q (.inl (some (vI x))) τ := fun x hx => h τ x FR.rf h2 hx
    refine b_X13_answers_5 ⟨fun z => go _ (Or.inr ⟨fun q => b2_eq z q.1, rfl⟩), fun z => ?_⟩
    have hs := b2_ne z
    rw [hT.1, h1.2.2.2.1]
    refine ⟨by unfold in64; omega, fun q => go _ (Or.inr ⟨fun w => q ⟨w.2.1, by omega⟩, rfl⟩), fun q => ?_⟩
    obtain ⟨n, rfl⟩ : ∃ n : Nat, p = n := ⟨p.toNat, by omega⟩
    refine d_answersOf hV hT hs.1.1 (by omega) ?_
    exact b_X13_answers_26 (go _ (Or.inl ⟨⟨hs, q.1, by omega⟩, rfl⟩))
theorem pr_move {s p y : Int} (hI : INV V σ) : PRC mX11_move mX13_move [vR 12 0, vI s, vI p, vI y, vU] [vR 14 0, vI s, vI p, vI y] σ := by
  have hV := hI.1.1
  have hpe := hV.pe
  have hha := hV.ha
  refine PRC.mk (R := RG (isSt V s ∧ (0 ≤ p ∧ p < pe V) ∧ 0 ≤ y ∧ y < ha V) (fun x => (ke V p.toNat = -1 ∧ x = wi V s p.toNat y) ∨ (ke V p.toNat ≠ -1 ∧ x = -1))) (R' := RG (isSt V s ∧ (0 ≤ p ∧ p < pe V) ∧ 0 ≤ y ∧ y < ha V) (fun x => (ke V p.toNat = -1 ∧ x = wi V s p.toNat y) ∨ (ke V p.toNat ≠ -1 ∧ x = -1))) hI (fun Q h => ?_) (fun τ Q h1 h2 h => ?_) (fun x y => RG.un Iff.rfl (fun x y _ a b => by omega))
  · have hA := hI.1.2.1
    refine b_X11_move_0 (c_isState hV hA.1 hA.2.1 ?_)
    show WP mX11_move 15 [vU, vI s, vI p, vI y, vR 10 0] [vI (b2 (isSt V s))] σ Q
    have go : ∀ x, RG (isSt V s ∧ (0 ≤ p ∧ p < pe V) ∧ 0 ≤ y ∧ y < ha V) (fun x => (ke V p.toNat = -1 ∧ x = wi V s p.toNat y) ∨ (ke V p.toNat ≠ -1 ∧ x = -1)) x → Q (.inl (some (vI x))) σ := fun x hx => h σ x FR.rf hI.2.2.2.1 hI.2.2.2.2.1 hx
    refine b_X11_move_15 ⟨fun z => go _ (Or.inr ⟨fun q => b2_eq z q.1, rfl⟩), fun z => ?_⟩
    have hs := b2_ne z
    rw [hA.1.pe, hA.1.ha]
    refine ⟨fun q => go _ (Or.inr ⟨fun w => q w.2.1, rfl⟩), fun q => ⟨fun q2 => ?_, fun q2 => go _ (Or.inr ⟨fun w => q2 w.2.2, rfl⟩)⟩⟩
    have hF := hA.2.2.1
    rw [band_ne hF.1.1 hF.1.2 q.1 (by omega), hA.2.1.1 p.toNat (by omega)]
    refine ⟨fun w => go _ (Or.inl ⟨⟨hs, q, q2⟩, Or.inr ⟨fun w2 => w ((hF.2.1 p.toNat).mpr ⟨by omega, w2⟩), rfl⟩⟩), fun w => ?_⟩
    have hk := ((hF.2.1 p.toNat).mp w).2
    have hpp := pw_pos hV p.toNat
    have hb := st_bd hV hs
    have hwb := st_bd hV (isSt_wi hV hs (p := p.toNat) (by omega) hk q2.1 q2.2)
    have hh := hab_bd hV s p.toNat
    unfold wi at hwb
    have e : s / ha V ^ p.toNat % ha V = hab V s p.toNat := rfl
    rw [e]
    exact ⟨⟨q.1, by omega, hs.1.1, hpp, Int.ediv_nonneg hs.1.1 (Int.le_of_lt hpp), by omega, by unfold in32; omega, q.1, by omega, by unfold in32; omega, by unfold in32; omega⟩, go _ (Or.inl ⟨⟨hs, q, q2⟩, Or.inl ⟨hk, rfl⟩⟩)⟩
  · have hT := h1.2.2.1
    refine b_X13_move_0 (d_isState hV hT ?_)
    show WP mX13_move 5 [vR 14 0, vI s, vI p, vI y] [vI (b2 (isSt V s))] τ Q
    have go : ∀ x, RG (isSt V s ∧ (0 ≤ p ∧ p < pe V) ∧ 0 ≤ y ∧ y < ha V) (fun x => (ke V p.toNat = -1 ∧ x = wi V s p.toNat y) ∨ (ke V p.toNat ≠ -1 ∧ x = -1)) x → Q (.inl (some (vI x))) τ := fun x hx => h τ x FR.rf h2 hx
    refine b_X13_move_5 ⟨fun z => go _ (Or.inr ⟨fun q => b2_eq z q.1, rfl⟩), fun z => ?_⟩
    have hs := b2_ne z
    rw [hT.1, hT.2.1]
    refine ⟨by unfold in64; omega, fun q => go _ (Or.inr ⟨fun w => q ⟨w.2.1.1, by omega⟩, rfl⟩), fun q => ⟨by unfold in64; omega, fun q2 => ?_, fun q2 => go _ (Or.inr ⟨fun w => q2 ⟨w.2.2.1, by omega⟩, rfl⟩)⟩⟩
    rw [hT.2.2.2.2.2.2.2.1 p.toNat (by omega), hT.2.2.2.2.2.2.1 p.toNat (by omega)]
    have q' : 0 ≤ p ∧ p < pe V := ⟨q.1, by omega⟩
    have q2' : 0 ≤ y ∧ y < ha V := ⟨q2.1, by omega⟩
    refine ⟨⟨by omega, by omega⟩, fun w => go _ (Or.inl ⟨⟨hs, q', q2'⟩, Or.inr ⟨w, rfl⟩⟩), fun hk => ?_⟩
    have hpp := pw_pos hV p.toNat
    have hb := st_bd hV hs
    have hwb := st_bd hV (isSt_wi hV hs (p := p.toNat) (by omega) hk q2'.1 q2'.2)
    have hh := hab_bd hV s p.toNat
    unfold wi at hwb
    have e : s / ha V ^ p.toNat % ha V = hab V s p.toNat := rfl
    rw [e]
    exact ⟨⟨q.1, by omega, hs.1.1, hpp, Int.ediv_nonneg hs.1.1 (Int.le_of_lt hpp), by omega, by unfold in32; omega, q.1, by omega, by unfold in32; omega, by unfold in32; omega⟩, go _ (Or.inl ⟨⟨hs, q', q2'⟩, Or.inl ⟨hk, rfl⟩⟩)⟩
end Calls
