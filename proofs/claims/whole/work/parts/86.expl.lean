/-! ===== copyFrom; explained, likeliest ===== -/
def anV (V : Vy) (x : Int) : Vy := (fun j => if j = 2 then x else V.1 j, V.2)
section AnV
variable {σ : St} {V : Vy} {x : Int}
theorem anV_pe : pe (anV V x) = pe V := rfl
theorem anV_ha : ha (anV V x) = ha V := rfl
theorem anV_an : an (anV V x) = x := rfl
theorem anV_sy : sy (anV V x) = sy V := rfl
theorem anV_st {s : Int} : isSt (anV V x) s ↔ isSt V s := Iff.rfl
theorem anV_self : anV V (an V) = V := by
  unfold anV
  refine Prod.ext ?_ rfl
  funext j
  show (if j = 2 then an V else V.1 j) = V.1 j
  by_cases e : j = 2
  · rw [if_pos e, e]; rfl
  · rw [if_neg e]
theorem VOK.anv (h : VOK V) (h0 : 0 ≤ x) (h2 : x ≤ 2) : VOK (anV V x) := ⟨h.1, h.2.1, h.2.2.1, ⟨h0, h2⟩, h.2.2.2.2⟩
theorem MT.anv (h : MT σ V) : MT σ (anV V x) := h
theorem VA.anv {i : Nat} (h : VA σ i V) : VA (up σ 10 i 2 x) i (anV V x) := by
  have f : FR (fun c a k => c = 10 ∧ a = i ∧ k = 2) σ (up σ 10 i 2 x) := FR.rf.u ⟨rfl, rfl, rfl⟩
  have g : ∀ c k, ¬ (c = 10 ∧ k = 2) → (up σ 10 i 2 x) c i k = σ c i k := fun c k hc => f c i k (fun z => hc ⟨z.1, z.2.2⟩)
  obtain ⟨hT, hP, hF, hL, hM⟩ := h
  have e2 : (up σ 10 i 2 x) 10 i 2 = x := up_s _ _ _ _ _
  generalize up σ 10 i 2 x = τ at *
  refine ⟨⟨?_, ?_, e2, ?_, fun j hj => ?_, fun j hj => ?_, fun j hj => ?_, fun j hj => ?_⟩, ⟨fun p hp => ?_, ?_⟩, ?_, ?_, ?_⟩
  · rw [g 10 0 (by omega)]; exact hT.pe
  · rw [g 10 1 (by omega)]; exact hT.ha
  · rw [g 10 3 (by omega)]; exact hT.sy
  · rw [g 54 j (by omega)]; exact hT.ge j hj
  · rw [g 55 j (by omega)]; exact hT.sl j hj
  · rw [g 56 j (by omega)]; exact hT.me j hj
  · rw [g 57 j (by omega)]; exact hT.ke j hj
  · rw [g 60 p (by omega)]; exact hP.1 p hp
  · rw [g 10 11 (by omega)]; exact hP.2
  · unfold VF
    rw [g 10 9 (by omega), g 10 10 (by omega)]; exact hF
  · unfold VL
    rw [g 10 12 (by omega), show τ 61 i = σ 61 i by funext k; exact g 61 k (by omega)]; exact hL
  · unfold VM
    rw [g 10 13 (by omega), show τ 58 i = σ 58 i by funext k; exact g 58 k (by omega), show τ 59 i = σ 59 i by funext k; exact g 59 k (by omega)]; exact hM
end AnV
def cpP (i : Nat) (c i' _j : Nat) : Prop := i' = i ∧ (c = 10 ∨ (54 ≤ c ∧ c ≤ 61))
section Copy
variable {σ : St} {Q : Res → St → Prop} {V : Vy} {i j : Nat}
theorem c_copyFrom (hij : i ≠ j) (hV : VOK V) (hT : VT σ j V) (h : ∀ τ, FR (cpP i) σ τ → VA τ i V → τ 10 i 4 = σ 10 j 4 → Q (.inl none) τ) : WP mX9_copyFrom 0 [vR 10 i, vR 10 j] [] σ Q := by
  have hji : j ≠ i := fun z => hij z.symm
  have hsy := hV.sy
  refine b_X9_copyFrom_0 ⟨by rw [hT.sy]; exact hsy, ?_⟩
  refine c_settle hV (V := V) ⟨?_, ?_, ?_, ?_, fun k hk => ?_, fun k hk => ?_, fun k hk => ?_, fun k hk => ?_⟩ (fun τ f1 hA => ?_)
  · simp [up, upR, hT.pe]
  · simp [up, upR, hT.ha]
  · simp [up, upR, hT.an]
  · simp [up, upR, hT.sy]
  · have := hT.ge k hk
    simp [up, upR, hk, hji, this]
  · have := hT.sl k hk
    simp [up, upR, hk, hji, this]
  · have := hT.me k hk
    simp [up, upR, hk, hji, this]
  · have := hT.ke k hk
    simp [up, upR, hk, hji, this]
  · refine b_X9_copyFrom_116 (h τ ?_ hA ?_)
    · refine FR.tr ?_ (f1.wk (fun c a b z => by unfold zP at z; unfold cpP; omega))
      exact (((((((((FR.rf.u (by unfold cpP; omega)).u (by unfold cpP; omega)).u (by unfold cpP; omega)).u (by unfold cpP; omega)).u (by unfold cpP; omega)).uR (fun k _ _ => by unfold cpP; omega)).uR (fun k _ _ => by unfold cpP; omega)).uR (fun k _ _ => by unfold cpP; omega)).uR (fun k _ _ => by unfold cpP; omega))
    · rw [f1 10 i 4 (fun z => by unfold zP at z; omega)]
      simp [up, upR]
end Copy
/-! what was known -/
def ak0 (st0 : Int) (fo tm sta : Nat → Int) (w i : Int) : Nat → Int
  | 0 => st0
  | j + 1 => if fo j = i ∧ tm j ≤ w then sta j else ak0 st0 fo tm sta w i j
def kn (st tm0 fo tm sta : Nat → Int) (w : Int) (m : Nat) (i : Nat) : Int := if w < tm0 i then -1 else ak0 (st i) fo tm sta w i m
noncomputable def dst (V : Vy) (t s : Int) : Int := @dite Int (∃ F, DIST V (fun x => x = t) F) (Classical.propDecidable _) (fun h => Classical.choose h s / 4096) (fun _ => 0)
noncomputable def es (V : Vy) (kn : Nat → Int) : Nat → Int × Int
  | 0 => (-1, 0)
  | i + 1 => if kn i = -1 then es V kn i else (kn i, if (es V kn i).1 = -1 then (es V kn i).2 else (es V kn i).2 + dst V (kn i) (es V kn i).1)
section Expl
variable {σ : St} {Q : Res → St → Prop} {V U : Vy} {w : Int}
theorem dst_eq {t s : Int} {F : Int → Int} (hV : VOK V) (hs : isSt V s) (hD : DIST V (fun x => x = t) F) : dst V t s = F s / 4096 := by
  unfold dst
  rw [dif_pos ⟨F, hD⟩]
  rw [(Classical.choose_spec (⟨F, hD⟩ : ∃ F, DIST V (fun x => x = t) F)).uniq hV hD s hs]
theorem dst_bd {t s : Int} (hV : VOK V) (ht : isSt V t) (hs : isSt V s) : 0 ≤ dst V t s ∧ dst V t s ≤ 30 := by
  obtain ⟨F, hD⟩ := dist_ex hV (Tg := fun x => x = t) ht rfl
  rw [dst_eq hV hs hD]
  have := (hD s hs).1
  have := hD.le hV ht rfl s hs
  omega
theorem es_ok {kn : Nat → Int} (hV : VOK V) : ∀ n : Nat, (∀ i, i < n → kn i = -1 ∨ isSt V (kn i)) → ((es V kn n).1 = -1 ∨ isSt V (es V kn n).1) ∧ 0 ≤ (es V kn n).2 ∧ (es V kn n).2 ≤ 30 * n := by
  intro n
  induction n with
  | zero => intro _; exact ⟨Or.inl rfl, by show (0 : Int) ≤ 0; omega, by show (0 : Int) ≤ 30 * ((0 : Nat) : Int); omega⟩
  | succ n ih =>
    intro h
    obtain ⟨h1, h2, h3⟩ := ih (fun i hi => h i (by omega))
    rw [es]
    by_cases e : kn n = -1
    · rw [if_pos e]; exact ⟨h1, h2, by push_cast; omega⟩
    · rw [if_neg e]
      have hk := (h n (by omega)).resolve_left e
      refine ⟨Or.inr hk, ?_⟩
      show 0 ≤ (if (es V kn n).1 = -1 then (es V kn n).2 else (es V kn n).2 + dst V (kn n) (es V kn n).1) ∧ (if (es V kn n).1 = -1 then (es V kn n).2 else (es V kn n).2 + dst V (kn n) (es V kn n).1) ≤ 30 * ((n + 1 : Nat) : Int)
      by_cases e2 : (es V kn n).1 = -1
      · rw [if_pos e2]; push_cast; omega
      · rw [if_neg e2]
        have := dst_bd hV hk (h1.resolve_left e2)
        push_cast; omega
theorem es_cg {kn kn' : Nat → Int} : ∀ n : Nat, (∀ i, i < n → kn i = kn' i) → es V kn n = es V kn' n := by
  intro n
  induction n with
  | zero => intro _; rfl
  | succ n ih =>
    intro h
    rw [es, es, ih (fun i hi => h i (by omega)), h n (by omega)]
theorem ak_st {st0 : Int} {fo tm sta : Nat → Int} {i : Int} (h0 : isSt V st0) : ∀ m : Nat, (∀ j, j < m → isSt V (sta j)) → isSt V (ak0 st0 fo tm sta w i m) := by
  intro m
  induction m with
  | zero => intro _; exact h0
  | succ m ih =>
    intro h
    rw [ak0]
    by_cases e : fo m = i ∧ tm m ≤ w
    · rw [if_pos e]; exact h m (by omega)
    · rw [if_neg e]; exact ih (fun j hj => h j (by omega))
theorem ak_cg {st0 : Int} {fo tm sta fo' tm' sta' : Nat → Int} {i : Int} : ∀ m : Nat, (∀ j, j < m → fo j = fo' j ∧ tm j = tm' j ∧ sta j = sta' j) → ak0 st0 fo tm sta w i m = ak0 st0 fo' tm' sta' w i m := by
  intro m
  induction m with
  | zero => intro _; rfl
  | succ m ih =>
    intro h
    obtain ⟨a, b, c⟩ := h m (by omega)
    rw [ak0, ak0, ih (fun j hj => h j (by omega)), a, b, c]
def knC (σ : St) (w : Int) (i : Nat) : Int := kn (σ 42 0) (σ 41 0) (σ 43 0) (σ 44 0) (σ 45 0) w (σ 7 0 1).toNat i
def knM (σ : St) (w : Int) (i : Nat) : Int := kn (σ 104 0) (σ 106 0) (σ 107 0) (σ 109 0) (σ 108 0) w (σ 14 0 84).toNat i
theorem kn_eq {i : Nat} (h : ISN V σ) (hi : (i : Int) < σ 7 0 0) : knC σ w i = knM σ w i := by
  obtain ⟨s1, s2, s3, s4, s5, s6, s7, s8⟩ := h
  obtain ⟨a, b, c, d, e⟩ := s7 i hi
  unfold knC knM kn
  rw [c, d, s2, ak_cg (fo' := σ 107 0) (tm' := σ 109 0) (sta' := σ 108 0) _ (fun j hj => by
    obtain ⟨p, q, r, _⟩ := s8 j (by omega)
    exact ⟨p, q, r⟩)]
theorem kn_st {i : Nat} (h : ISN V σ) (hi : (i : Int) < σ 7 0 0) : knC σ w i = -1 ∨ isSt V (knC σ w i) := by
  obtain ⟨s1, s2, s3, s4, s5, s6, s7, s8⟩ := h
  unfold knC kn
  by_cases e : w < σ 41 0 i
  · rw [if_pos e]; exact Or.inl rfl
  · rw [if_neg e]; exact Or.inr (ak_st (s7 i hi).2.2.2.2 _ (fun j hj => (s8 j (by omega)).2.2.2))
theorem c_knownAt {i : Nat} (h1 : 0 ≤ σ 7 0 1 ∧ σ 7 0 1 ≤ 20) (hi : i < 20) (h : Q (.inl (some (vI (knC σ w i)))) σ) : WP mX6_knownAt 0 [vR 7 0, vI w, vI (i : Int), vU, vU] [] σ Q := by
  refine b_X6_knownAt_0 ?_
  rw [Int.toNat_natCast]
  unfold knC kn at h
  refine ⟨by omega, fun z => ⟨by omega, ?_⟩, fun z => ?_⟩
  · rw [if_neg (by omega)] at h
    have key : ∀ r j : Nat, ((r + j : Nat) : Int) = σ 7 0 1 → WP mX6_knownAt 22 [vR 7 0, vI w, vI (i : Int), vI (ak0 (σ 42 0 i) (σ 43 0) (σ 44 0) (σ 45 0) w i j), vI (j : Int)] [] σ Q := by
      intro r
      induction r with
      | zero =>
        intro j hj
        refine b_X6_knownAt_22 ⟨fun _ => ?_, fun z => by omega⟩
        rw [show (σ 7 0 1).toNat = j by omega] at h
        exact h
      | succ r ih =>
        intro j hj
        have hn := ih (j + 1) (by omega)
        rw [ak0] at hn
        refine b_X6_knownAt_22 ?_
        rw [Int.toNat_natCast]
        refine ⟨fun z => by omega, fun _ => ⟨by omega, fun z => ⟨by unfold in32; omega, ?_⟩, fun z => ⟨by omega, fun z2 => ⟨by unfold in32; omega, ?_⟩, fun z2 => ⟨by omega, by unfold in32; omega, ?_⟩⟩⟩⟩
        · rw [if_neg (fun q => z q.1)] at hn; exact hn
        · rw [if_neg (fun q => by omega)] at hn; exact hn
        · rw [if_pos ⟨z, z2⟩] at hn; exact hn
    exact key (σ 7 0 1).toNat 0 (by omega)
  · rw [if_pos z] at h; exact h
theorem d_asKnown {i : Nat} (h1 : 0 ≤ σ 14 0 84 ∧ σ 14 0 84 ≤ 20) (hi : i < 20) (hk : σ 106 0 i ≤ w) (h : Q (.inl (some (vI (knM σ w i)))) σ) : WP mX13_asKnown 0 [vR 14 0, vI (i : Int), vI w, vU, vU] [] σ Q := by
  refine b_X13_asKnown_0 ?_
  rw [Int.toNat_natCast]
  unfold knM kn at h
  refine ⟨by omega, ?_⟩
  rw [if_neg (by omega)] at h
  have key : ∀ r j : Nat, ((r + j : Nat) : Int) = σ 14 0 84 → WP mX13_asKnown 10 [vR 14 0, vI (i : Int), vI w, vI (ak0 (σ 104 0 i) (σ 107 0) (σ 109 0) (σ 108 0) w i j), vI (j : Int)] [] σ Q := by
    intro r
    induction r with
    | zero =>
      intro j hj
      refine b_X13_asKnown_10 ⟨fun _ => ?_, fun z => by omega⟩
      rw [show (σ 14 0 84).toNat = j by omega] at h
      exact h
    | succ r ih =>
      intro j hj
      have hn := ih (j + 1) (by omega)
      rw [ak0] at hn
      refine b_X13_asKnown_10 ?_
      rw [Int.toNat_natCast]
      refine ⟨fun z => by omega, fun _ => ⟨by omega, fun z => ⟨by unfold in32; omega, ?_⟩, fun z => ⟨by omega, fun z2 => ⟨by unfold in32; omega, ?_⟩, fun z2 => ⟨by omega, by unfold in32; omega, ?_⟩⟩⟩⟩
      · rw [if_neg (fun q => z q.1)] at hn; exact hn
      · rw [if_neg (fun q => by omega)] at hn; exact hn
      · rw [if_pos ⟨z, z2⟩] at hn; exact hn
  exact key (σ 14 0 84).toNat 0 (by omega)
/-- the class' sum -/
theorem c_sl73 {j : Nat} (hU : VOK U) (hA : VA σ j U) (hR : REP σ j U) (hS : ISN U σ) (h : ∀ τ, FR (sP 0) σ τ → Q (.inl (some (vI (es U (knC σ w) (σ 7 0 0).toNat).2))) τ) : WP mX11_slipsSeen 73 [vR 12 0, vI w, vU, vR 2 j, vI 0, vI (-1), vI 0, vU] [] σ Q := by
  have s4 := hS.2.2.2.1
  have s5 := hS.2.2.2.2.1
  have e7 : ∀ τ, FR (sP 0) σ τ → ∀ k, τ 7 0 k = σ 7 0 k := fun τ f k => f 7 0 k (fun z => by unfold sP at z; omega)
  have ek : ∀ τ, FR (sP 0) σ τ → knC τ w = knC σ w := fun τ f => by
    have g : ∀ c k, 40 ≤ c ∧ c ≤ 45 ∨ c = 7 → τ c 0 k = σ c 0 k := fun c k hc => f c 0 k (fun z => by unfold sP at z; omega)
    funext i
    unfold knC
    rw [g 7 1 (by omega), show τ 42 0 = σ 42 0 by funext k; exact g 42 k (by omega), show τ 41 0 = σ 41 0 by funext k; exact g 41 k (by omega), show τ 43 0 = σ 43 0 by funext k; exact g 43 k (by omega), show τ 44 0 = σ 44 0 by funext k; exact g 44 k (by omega), show τ 45 0 = σ 45 0 by funext k; exact g 45 k (by omega)]
  have key : ∀ r i : Nat, ((r + i : Nat) : Int) = σ 7 0 0 → ∀ τ, FR (sP 0) σ τ → WP mX11_slipsSeen 73 [vR 12 0, vI w, vU, vR 2 j, vI (es U (knC σ w) i).2, vI (es U (knC σ w) i).1, vI (i : Int), vU] [] τ Q := by
    intro r
    induction r with
    | zero =>
      intro i hi τ f1
      obtain ⟨o1, o2, o3⟩ := es_ok hU (kn := knC σ w) i (fun k hk => kn_st hS (by omega))
      refine b_X11_slipsSeen_73 ⟨fun _ => ?_, fun z => by rw [e7 τ f1] at z; omega⟩
      have := h τ f1
      rw [show (σ 7 0 0).toNat = i by omega] at this
      rw [show min (es U (knC σ w) i).2 1000000 = (es U (knC σ w) i).2 by omega]
      exact this
    | succ r ih =>
      intro i hi τ f1
      obtain ⟨o1, o2, o3⟩ := es_ok hU (kn := knC σ w) i (fun k hk => kn_st hS (by omega))
      have hkn := kn_st (w := w) (i := i) hS (by omega)
      refine b_X11_slipsSeen_73 ⟨fun z => by rw [e7 τ f1] at z; omega, fun _ => c_knownAt (by rw [e7 τ f1]; exact s5) (by omega) ?_⟩
      rw [ek τ f1]
      show WP mX11_slipsSeen 95 [vR 12 0, vI w, vU, vR 2 j, vI (es U (knC σ w) i).2, vI (es U (knC σ w) i).1, vI (i : Int), vU] [vI (knC σ w i)] τ Q
      have nx : ∀ τ', FR (sP 0) σ τ' → ∀ a b : Int, b = (es U (knC σ w) (i + 1)).2 → a = (es U (knC σ w) (i + 1)).1 → in32 ((i : Int) + 1) ∧ WP mX11_slipsSeen 73 [vR 12 0, vI w, vU, vR 2 j, vI b, vI a, vI ((i : Int) + 1), vU] [] τ' Q := fun τ' f a b hb ha => by
        rw [hb, ha]
        exact ⟨by unfold in32; omega, ih (i + 1) (by omega) τ' f⟩
      have e1 : knC σ w i = -1 → es U (knC σ w) (i + 1) = es U (knC σ w) i := fun z => by rw [es, if_pos z]
      have e2 : knC σ w i ≠ -1 → (es U (knC σ w) i).1 = -1 → es U (knC σ w) (i + 1) = (knC σ w i, (es U (knC σ w) i).2) := fun z z2 => by rw [es, if_neg z, if_pos z2]
      have e3 : knC σ w i ≠ -1 → (es U (knC σ w) i).1 ≠ -1 → es U (knC σ w) (i + 1) = (knC σ w i, (es U (knC σ w) i).2 + dst U (knC σ w i) (es U (knC σ w) i).1) := fun z z2 => by rw [es, if_neg z, if_neg z2]
      refine b_X11_slipsSeen_95 ⟨fun z => ⟨fun z2 => absurd z z2, fun _ => nx τ f1 _ _ (by rw [e1 z]) (by rw [e1 z])⟩, fun z => ⟨fun z2 => ⟨fun _ => nx τ f1 _ _ (by rw [e2 z z2]) (by rw [e2 z z2]), fun q => absurd q z⟩, fun z2 => ?_⟩⟩
      have ht := hkn.resolve_left z
      have hs := o1.resolve_left z2
      obtain ⟨F, hD⟩ := dist_ex hU (Tg := fun x => x = knC σ w i) ht rfl
      refine c_toState (F := F) hU (hA.fr f1 (fun c k hc z => by unfold sP at z; omega)) (hR.fr f1 (fun k z => by unfold sP at z; omega)) ht hs hD (fun υ L u1 _ _ => ?_)
      rw [← dst_eq hU hs hD]
      show WP mX11_slipsSeen 123 [vR 12 0, vI w, vU, vR 2 j, vU, vI (es U (knC σ w) i).1, vI (i : Int), vI (knC σ w i)] [vI (dst U (knC σ w i) (es U (knC σ w) i).1), vI (es U (knC σ w) i).2] υ Q
      have hb := dst_bd hU ht hs
      exact b_X11_slipsSeen_123 ⟨by unfold in32; omega, fun _ => nx υ (f1.tr u1) _ _ (by rw [e3 z z2]) (by rw [e3 z z2]), fun q => absurd q z⟩
  exact key (σ 7 0 0).toNat 0 (by omega) σ FR.rf
theorem ISN.anv {x : Int} (h : ISN V σ) : ISN (anV V x) σ := h
/-- the class' slipsSeen -/
theorem c_slips {x : Int} (hV : VOK V) (hA : VA σ 0 V) (hL : ILD V σ) (hC : ICC V σ) (hS : ISN V σ) (h0 : 0 ≤ x) (h2 : x ≤ 2) (h : ∀ τ, FR kC σ τ → ILD V τ → ICC V τ → Q (.inl (some (vI (es (anV V x) (knC σ w) (σ 7 0 0).toNat).2))) τ) : WP mX11_slipsSeen 0 [vR 12 0, vI w, vI x, vU, vU, vU, vU, vU] [] σ Q := by
  have ek : ∀ τ, FR kC σ τ → knC τ w = knC σ w ∧ τ 7 0 0 = σ 7 0 0 := fun τ f => by
    have g : ∀ c k, 40 ≤ c ∧ c ≤ 45 ∨ c = 7 → τ c 0 k = σ c 0 k := fun c k hc => f c 0 k (fun z => by unfold kC at z; omega)
    refine ⟨?_, g 7 0 (by omega)⟩
    funext i
    unfold knC
    rw [g 7 1 (by omega), show τ 42 0 = σ 42 0 by funext k; exact g 42 k (by omega), show τ 41 0 = σ 41 0 by funext k; exact g 41 k (by omega), show τ 43 0 = σ 43 0 by funext k; exact g 43 k (by omega), show τ 44 0 = σ 44 0 by funext k; exact g 44 k (by omega), show τ 45 0 = σ 45 0 by funext k; exact g 45 k (by omega)]
  refine b_X11_slipsSeen_0 ⟨fun e => ?_, fun hne => ?_⟩
  · rw [hA.1.an] at e
    subst e
    rw [anV_self] at h
    obtain ⟨l1, l2, l3, l4⟩ := hL
    refine c_replyL hV hA l1 (fun τ b f1 same e5 e4 r1 _ _ => ?_)
    show WP mX11_slipsSeen 63 [vR 12 0, vI w, vU, vR 2 0, vU, vU, vU, vU] [vI b] τ Q
    have F' : FR (fun c i j => i = 0 ∧ ((23 ≤ c ∧ c ≤ 26) ∨ (c = 2 ∧ j = 4))) σ τ := fun c a b z => by
      by_cases e : a = 0 ∧ (c = 5 ∨ (27 ≤ c ∧ c ≤ 36))
      · rw [e.1]; exact same c b e.2
      · by_cases e' : a = 0 ∧ c = 2 ∧ b = 5
        · rw [e'.1, e'.2.1, e'.2.2]; exact e5
        · exact f1 c a b (fun w => by unfold rdP at w; apply z; exact ⟨w.1, by omega⟩)
    have F1 : FR kC σ τ := F'.wk (fun c i j z => by unfold kC; omega)
    have L1 : ILD V τ := by
      refine ⟨⟨fun _ => r1, fun z => ?_⟩, ?_, l3.fr F' ⟨by omega, fun k => by omega, fun k => by omega⟩, ?_⟩
      · rw [e5] at z
        exact ⟨(l1.2 z).1.fr F' (fun c k hc z => by omega), (l1.2 z).2.fr F' (fun c k hc z => by omega)⟩
      · rw [e5, F' 12 0 15 (fun z => by omega)]; exact l2
      · rw [e5, F' 2 0 6 (fun z => by omega)]
        exact fun z => ⟨(l4 z).1, (l4 z).2.fr F' (fun c j hc z => by omega)⟩
    refine b_X11_slipsSeen_63 (c_sl73 hV (hA.fr F' (fun c k hc z => by omega)) r1 (hS.fr F' (by omega)) (fun υ u1 => ?_))
    rw [(ek τ F1).1, (ek τ F1).2]
    exact h υ (F1.tr (u1.wk (fun c i j z => by unfold sP at z; unfold kC; omega))) (L1.fr u1 (by unfold sP; omega)) (hC.fr (F'.wk (P' := fun c i j => ¬ (c = 12 ∨ c = 64 ∨ c = 65)) (fun c i j z => by omega)) (by omega) |>.fr u1 (by unfold sP; omega))
  · refine c_copyFrom (by omega) hV hA.1 (fun τ f1 a1 _ => ?_)
    show WP mX11_slipsSeen 36 [vR 12 0, vI w, vI x, vU, vU, vU, vU, vU] [] τ Q
    have hU := hV.anv h0 h2
    refine b_X11_slipsSeen_36 (b_X1_change_0 ?_)
    show WP mX11_slipsSeen 54 [vR 12 0, vI w, vU, vU, vU, vU, vU, vU] [] _ Q
    have a2 : VA (up τ 10 1 2 x) 1 (anV V x) := a1.anv
    have G1 : FR (fun c i j => i = 1 ∧ (c = 10 ∨ (54 ≤ c ∧ c ≤ 61))) σ (up τ 10 1 2 x) := (f1.wk (fun c i j z => by unfold cpP at z; omega)).u (by omega)
    generalize up τ 10 1 2 x = υ at *
    have G2 : FR (fun c i j => i = 1 ∧ c = 2) υ (up (up (up υ 2 1 4 0) 2 1 5 0) 2 1 6 0) := ((FR.rf.u (by omega)).u (by omega)).u (by omega)
    have e4 : (up (up (up υ 2 1 4 0) 2 1 5 0) 2 1 6 0) 2 1 4 = 0 := by rw [up_j (by omega), up_j (by omega), up_s]
    have e5 : (up (up (up υ 2 1 4 0) 2 1 5 0) 2 1 6 0) 2 1 5 = 0 := by rw [up_j (by omega), up_s]
    generalize (up (up (up υ 2 1 4 0) 2 1 5 0) 2 1 6 0) = ω at *
    have a3 : VA ω 1 (anV V x) := a2.fr G2 (fun c k hc z => by omega)
    refine b_X11_slipsSeen_54 (c_replyL hU a3 ⟨fun z => absurd e4 z, fun z => absurd e5 z⟩ (fun ρ b g1 _ _ _ r1 _ _ => ?_))
    show WP mX11_slipsSeen 63 [vR 12 0, vI w, vU, vR 2 1, vU, vU, vU, vU] [vI b] ρ Q
    have G3 : FR (fun c i j => i = 1 ∧ (c = 2 ∨ c = 5 ∨ c = 10 ∨ (23 ≤ c ∧ c ≤ 36) ∨ (54 ≤ c ∧ c ≤ 61))) σ ρ := ((G1.wk (fun c i j z => by omega)).tr (G2.wk (fun c i j z => by omega))).tr (g1.wk (fun c i j z => by unfold rdP at z; omega))
    have F1 : FR kC σ ρ := G3.wk (fun c i j z => by unfold kC; omega)
    refine b_X11_slipsSeen_63 (c_sl73 hU (a3.fr g1 (fun c k hc z => by unfold rdP at z; omega)) r1 ((hS.fr G3 (by omega)).anv) (fun κ u1 => ?_))
    rw [(ek ρ F1).1, (ek ρ F1).2]
    exact h κ (F1.tr (u1.wk (fun c i j z => by unfold sP at z; unfold kC; omega))) ((hL.fr G3 (by omega)).fr u1 (by unfold sP; omega)) ((hC.fr G3 (by omega)).fr u1 (by unfold sP; omega))
/-- the model's explainedBy -/
theorem d_explainedBy {x : Int} (hI : IVV V σ) (hS : ISN V σ) (h0 : 0 ≤ x) (h2 : x ≤ 2) (h : ∀ τ, FR kM σ τ → IMD V τ → Q (.inl (some (vI (es (anV V x) (knM σ w) (σ 14 0 83).toNat).2))) τ) : WP mX13_explainedBy 0 [vR 14 0, vI w, vI x, vU, vU, vU, vU] [] σ Q := by
  have hV := hI.1
  have hU := hV.anv h0 h2
  have hT : MT σ (anV V x) := hI.2.2.1.anv
  have s4 := hS.2.2.2.1
  have s5 := hS.2.2.2.2.1
  have s1 := hS.1
  have s2 := hS.2.1
  have hk1 : ∀ i : Nat, (i : Int) < σ 7 0 0 → knM σ w i = -1 ∨ isSt (anV V x) (knM σ w i) := fun i hi => by
    rw [← kn_eq hS hi]; exact kn_st hS hi
  refine b_X13_explainedBy_0 ?_
  have := d_findAnswers (Q := CT mX13_explainedBy 5 [vR 14 0, vI w, vU, vU, vU, vU, vU] [] Q) hU hT (fun τ f1 r1 => ?_)
  · exact this
  show WP mX13_explainedBy 5 [vR 14 0, vI w, vU, vU, vU, vU, vU] [] τ Q
  refine b_X13_explainedBy_5 ?_
  have F1 : FR (fun c i j => i = 0 ∧ (c = 78 ∨ (88 ≤ c ∧ c ≤ 90))) σ τ := f1.wk (fun c i j z => by unfold fP at z; omega)
  have e14 : ∀ υ, FR (fun c i j => i = 0 ∧ (c = 78 ∨ (88 ≤ c ∧ c ≤ 90))) σ υ → ∀ k, υ 14 0 k = σ 14 0 k := fun υ f k => f 14 0 k (fun z => by omega)
  have ek : ∀ υ, FR (fun c i j => i = 0 ∧ (c = 78 ∨ (88 ≤ c ∧ c ≤ 90))) σ υ → knM υ w = knM σ w := fun υ f => by
    have g : ∀ c k, 104 ≤ c → υ c 0 k = σ c 0 k := fun c k hc => f c 0 k (fun z => by omega)
    funext i
    unfold knM
    rw [e14 υ f 84, show υ 104 0 = σ 104 0 by funext k; exact g 104 k (by omega), show υ 106 0 = σ 106 0 by funext k; exact g 106 k (by omega), show υ 107 0 = σ 107 0 by funext k; exact g 107 k (by omega), show υ 108 0 = σ 108 0 by funext k; exact g 108 k (by omega), show υ 109 0 = σ 109 0 by funext k; exact g 109 k (by omega)]
  have fin : ∀ υ, FR (fun c i j => i = 0 ∧ (c = 78 ∨ (88 ≤ c ∧ c ≤ 90))) σ υ → Q (.inl (some (vI (es (anV V x) (knM σ w) (σ 14 0 83).toNat).2))) (up υ 14 0 37 0) := fun υ f => h _ ((f.wk (fun c i j z => by unfold kM; omega)).u (by unfold kM; omega)) (fun z => absurd (up_s _ _ _ _ _) z)
  have key : ∀ r i : Nat, ((r + i : Nat) : Int) = σ 7 0 0 → ∀ υ, FR (fun c i j => i = 0 ∧ (c = 78 ∨ (88 ≤ c ∧ c ≤ 90))) σ υ → MRP υ (anV V x) → WP mX13_explainedBy 13 [vR 14 0, vI w, vU, vI (es (anV V x) (knM σ w) i).2, vI (es (anV V x) (knM σ w) i).1, vI (i : Int), vU] [] υ Q := by
    intro r
    induction r with
    | zero =>
      intro i hi υ f2 r2
      refine b_X13_explainedBy_13 ⟨fun _ => ?_, fun z => by rw [e14 υ f2] at z; omega⟩
      have := fin υ f2
      rw [show (σ 14 0 83).toNat = i by omega] at this
      exact this
    | succ r ih =>
      intro i hi υ f2 r2
      obtain ⟨o1, o2, o3⟩ := es_ok hU (kn := knM σ w) i (fun k hk => hk1 k (by omega))
      have hkn := hk1 i (by omega)
      have nx : ∀ τ', FR (fun c i j => i = 0 ∧ (c = 78 ∨ (88 ≤ c ∧ c ≤ 90))) σ τ' → MRP τ' (anV V x) → ∀ a b : Int, b = (es (anV V x) (knM σ w) (i + 1)).2 → a = (es (anV V x) (knM σ w) (i + 1)).1 → in32 ((i : Int) + 1) ∧ WP mX13_explainedBy 13 [vR 14 0, vI w, vU, vI b, vI a, vI ((i : Int) + 1), vU] [] τ' Q := fun τ' f r a b hb ha => by
        rw [hb, ha]
        exact ⟨by unfold in32; omega, ih (i + 1) (by omega) τ' f r⟩
      have e1 : knM σ w i = -1 → es (anV V x) (knM σ w) (i + 1) = es (anV V x) (knM σ w) i := fun z => by rw [es, if_pos z]
      have e2 : knM σ w i ≠ -1 → (es (anV V x) (knM σ w) i).1 = -1 → es (anV V x) (knM σ w) (i + 1) = (knM σ w i, (es (anV V x) (knM σ w) i).2) := fun z z2 => by rw [es, if_neg z, if_pos z2]
      have e3 : knM σ w i ≠ -1 → (es (anV V x) (knM σ w) i).1 ≠ -1 → es (anV V x) (knM σ w) (i + 1) = (knM σ w i, (es (anV V x) (knM σ w) i).2 + dst (anV V x) (knM σ w i) (es (anV V x) (knM σ w) i).1) := fun z z2 => by rw [es, if_neg z, if_neg z2]
      have e106 : υ 106 0 i = σ 106 0 i := f2 106 0 i (fun z => by omega)
      refine b_X13_explainedBy_13 ?_
      rw [e14 υ f2, Int.toNat_natCast, e106]
      refine ⟨fun z => by omega, fun _ => ⟨fun z => by omega, fun _ => ⟨by omega, fun hk => ?_, fun hk => nx υ f2 r2 _ _ (by rw [e1 (by unfold knM kn; rw [if_pos hk])]) (by rw [e1 (by unfold knM kn; rw [if_pos hk])])⟩⟩⟩
      have hne : knM σ w i ≠ -1 := fun z => by
        have hh := (hS.2.2.2.2.2.2.1 i (by omega)).2.2.2.2
        have h3 := ak_st (V := V) (w := w) (i := (i : Int)) (fo := σ 43 0) (tm := σ 44 0) (sta := σ 45 0) hh (σ 7 0 1).toNat (fun j hj => (hS.2.2.2.2.2.2.2 j (by omega)).2.2.2)
        have h4 := kn_eq (w := w) (i := i) hS (by omega)
        have h5 : knC σ w i = ak0 (σ 42 0 i) (σ 43 0) (σ 44 0) (σ 45 0) w i (σ 7 0 1).toNat := by
          unfold knC kn
          rw [if_neg (by rw [(hS.2.2.2.2.2.2.1 i (by omega)).2.2.1]; omega)]
        rw [← h4, h5] at z
        have := (st_bd hV h3).1
        omega
      refine d_asKnown (by rw [e14 υ f2]; omega) (by omega) (by rw [e106]; exact hk) ?_
      rw [ek υ f2]
      show WP mX13_explainedBy 48 [vR 14 0, vI w, vU, vI (es (anV V x) (knM σ w) i).2, vI (es (anV V x) (knM σ w) i).1, vI (i : Int), vU] [vI (knM σ w i)] υ Q
      refine b_X13_explainedBy_48 ⟨fun z2 => nx υ f2 r2 _ _ (by rw [e2 hne z2]) (by rw [e2 hne z2]), fun z2 => ?_⟩
      have ht := hkn.resolve_left hne
      have hs := o1.resolve_left z2
      have hsb := st_bd hU hs
      refine d_markState hU (hT.fr f2 (fun c j hc z => by omega)) r2 ht (fun ρ p1 p2 => ?_)
      show WP mX13_explainedBy 62 [vR 14 0, vI w, vU, vI (es (anV V x) (knM σ w) i).2, vI (es (anV V x) (knM σ w) i).1, vI (i : Int), vI (knM σ w i)] [] ρ Q
      have hd := dst_eq hU hs p2
      have hle := p2.le hU ht rfl _ hs
      have h00 := (p2 _ hs).1
      have hb := dst_bd hU ht hs
      have er : ρ 90 0 (es (anV V x) (knM σ w) i).1.toNat = far ρ (es (anV V x) (knM σ w) i).1 := rfl
      have F3 : FR (fun c i j => i = 0 ∧ (c = 78 ∨ (88 ≤ c ∧ c ≤ 90))) σ ρ := f2.tr (p1.wk (fun c i j z => by unfold mkP at z; omega))
      refine b_X13_explainedBy_62 ?_
      rw [er, ← hd]
      exact ⟨hsb, fun _ => ⟨hsb, h00, by unfold in32; omega, nx ρ F3 (r2.fr p1 (fun c j hc z => by unfold mkP at z; omega)) _ _ (by rw [e3 hne z2]) (by rw [e3 hne z2])⟩, fun z => by omega⟩
  exact key (σ 7 0 0).toNat 0 (by omega) τ F1 r1
theorem es_CM {x : Int} (hS : ISN V σ) : es (anV V x) (knC σ w) (σ 7 0 0).toNat = es (anV V x) (knM σ w) (σ 14 0 83).toNat := by
  have s4 := hS.2.2.2.1
  rw [← hS.1, es_cg _ (fun i hi => kn_eq hS (by omega))]
theorem pr_explained {x : Int} (hI : INV V σ) : PRC mX11_explained mX13_explained [vR 12 0, vI w, vI x, vU] [vR 14 0, vI w, vI x] σ := by
  have hV := hI.1.1
  have hS := hI.2.2.2.2.2.2.2.2.2.2.2
  have s4 := hS.2.2.2.1
  refine PRC.mk2 (R := RG ((0 ≤ w ∧ w ≤ 999) ∧ 0 ≤ x ∧ x ≤ 2) (fun y => y = (es (anV V x) (knC σ w) (σ 7 0 0).toNat).2)) (R' := RG ((0 ≤ w ∧ w ≤ 999) ∧ 0 ≤ x ∧ x ≤ 2) (fun y => y = (es (anV V x) (knM σ w) (σ 14 0 83).toNat).2)) hI (fun Q h => ?_) (fun τ Q f0 h1 h2 h => ?_) (fun a b => RG.un Iff.rfl (fun a b _ e e' => by rw [e, e', es_CM hS]))
  · have no : ¬ ((0 ≤ w ∧ w ≤ 999) ∧ 0 ≤ x ∧ x ≤ 2) → Q (.inl (some (vI (-2)))) σ := fun z => h σ _ FR.rf hI.2.2.2.1 hI.2.2.2.2.1 (Or.inr ⟨z, rfl⟩)
    refine b_X11_explained_0 ⟨fun z => no (by omega), fun z1 => ⟨fun z => no (by omega), fun z2 => ⟨fun z => no (by omega), fun z3 => ⟨fun z4 => ?_, fun z => no (by omega)⟩⟩⟩⟩
    refine c_slips hV hI.1.2.1 hI.2.2.2.1 hI.2.2.2.2.1 hS z3 z4 (fun τ f1 l1 c1 => ?_)
    obtain ⟨o1, o2, o3⟩ := es_ok (hV.anv z3 z4) (kn := knC σ w) (σ 7 0 0).toNat (fun k hk => kn_st hS.anv (by omega))
    exact b_X11_explained_29 ⟨fun z => by omega, fun _ => h τ _ f1 l1 c1 (Or.inl ⟨⟨⟨z1, z2⟩, z3, z4⟩, rfl⟩)⟩
  · have no : ¬ ((0 ≤ w ∧ w ≤ 999) ∧ 0 ≤ x ∧ x ≤ 2) → Q (.inl (some (vI (-2)))) τ := fun z => h τ _ FR.rf h2 (Or.inr ⟨z, rfl⟩)
    have hS' : ISN V τ := hS.fr f0 (by unfold kC; omega)
    refine b_X13_explained_0 ⟨fun z => no (by omega), fun z1 => ⟨fun z => no (by omega), fun z2 => d_explainedBy h1 hS' z2.1 z2.2 (fun υ f1 m1 => ?_)⟩⟩
    have g : ∀ c k, 104 ≤ c → τ c 0 k = σ c 0 k := fun c k hc => f0 c 0 k (fun z => by unfold kC at z; omega)
    have g14 : ∀ k, τ 14 0 k = σ 14 0 k := fun k => f0 14 0 k (fun z => by unfold kC at z; omega)
    have ek : knM τ w = knM σ w := by
      funext i
      unfold knM
      rw [g14 84, show τ 104 0 = σ 104 0 by funext k; exact g 104 k (by omega), show τ 106 0 = σ 106 0 by funext k; exact g 106 k (by omega), show τ 107 0 = σ 107 0 by funext k; exact g 107 k (by omega), show τ 108 0 = σ 108 0 by funext k; exact g 108 k (by omega), show τ 109 0 = σ 109 0 by funext k; exact g 109 k (by omega)]
    rw [ek, g14]
    exact b_X13_explained_30 (h υ _ f1 m1 (Or.inl ⟨⟨z1, z2⟩, rfl⟩))
end Expl
