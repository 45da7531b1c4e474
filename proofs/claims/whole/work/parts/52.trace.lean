/-! ===== THE WAY: the class' countMoves, leastNext, trace ===== -/
def HOPS (V : Vy) (F : Int → Int) (L f : Int) (hp : Int → Int) : Prop := (∀ u, isSt V u → F u / 4096 < L → hp u ≠ 1000000 → hp u = F u % 4096) ∧ hp f = F f % 4096 ∧ (∀ u, isSt V u → F u / 4096 < L → F u % 4096 < F f % 4096 → hp u = F u % 4096)
section Trace
variable {i j : Nat} {σ : St} {Q : Res → St → Prop} {V : Vy} {s t L f : Int} {F K : Int → Int}
theorem BQ.fin {hp : Int → Int} {qu : Nat → Int} {a q : Nat} (hV : VOK V) (hD : DIST V (fun x => x = t) F) (hS : SI V (fun x => x = t) F L K) (ht : isSt V t) (h : BQ V K t hp qu a q) (hf : isSt V f) (hfL : F f / 4096 < L) (hor : a = q ∨ hp f ≠ 1000000) : HOPS V F L f hp := by
  have hcm := hD.cm hV
  have K0 : K t = 0 := (hS.1 t ht).2.2.2 rfl
  have lo : ∀ u, isSt V u → F u / 4096 < L → hp u ≠ 1000000 → F u % 4096 ≤ hp u := fun u hu hL hne => by
    have := h.lo hV hD K0 ((hp u).toNat + 1) u hu hne (by omega)
    have e := (hS.1 u hu).2.2.1 hL
    have := (hcm u hu).1
    omega
  have q1024 : q ≤ 1024 := by rw [h.2.2.2.2.2.2.1]; exact cnt_bd _ _
  by_cases haq : a < q
  · have hH : ∀ b : Nat, b < q → hp (qu b) < hp (qu a) → b < a := fun b hb hlt => by
      apply Classical.byContradiction
      intro z
      by_cases e : b = a
      · rw [e] at hlt; omega
      · have := h.2.1 a b (by omega) hb; omega
    have upp : ∀ u, isSt V u → F u / 4096 < L → F u % 4096 ≤ hp (qu a) → hp u ≠ 1000000 ∧ hp u ≤ F u % 4096 := fun u hu hL hle => h.up hV hD hS (hp (qu a)) hH ((F u % 4096).toNat + 1) u hu hL (by omega) hle
    have hd1 : ∀ u, isSt V u → hp u ≠ 1000000 → hp u ≤ hp (qu a) + 1 := fun u hu hne => by
      obtain ⟨b, b1, b2⟩ := h.2.2.2.1 u hu hne
      have := h.2.2.1 b b1 a (Nat.le_refl _) haq
      rw [b2] at this; exact this
    have ex : ∀ u, isSt V u → F u / 4096 < L → hp u ≠ 1000000 → hp u = F u % 4096 := fun u hu hL hne => by
      have h1 := lo u hu hL hne
      have h2 := hd1 u hu hne
      by_cases c : F u % 4096 ≤ hp (qu a)
      · have := (upp u hu hL c).2; omega
      · omega
    have hfne : hp f ≠ 1000000 := hor.resolve_left (by omega)
    refine ⟨ex, ex f hf hfL hfne, fun u hu hL hlt => ?_⟩
    have h2 := hd1 f hf hfne
    have h3 := ex f hf hfL hfne
    exact ex u hu hL (upp u hu hL (by omega)).1
  · have haq' : a = q := by have := h.2.2.2.2.2.2.2.2; omega
    have upp : ∀ u, isSt V u → F u / 4096 < L → hp u ≠ 1000000 ∧ hp u ≤ F u % 4096 := fun u hu hL => h.up hV hD hS 5000 (fun b hb _ => by omega) ((F u % 4096).toNat + 1) u hu hL (by omega) (by have := (hcm u hu).1; omega)
    have ex : ∀ u, isSt V u → F u / 4096 < L → hp u = F u % 4096 := fun u hu hL => by
      have h1 := upp u hu hL
      have h2 := lo u hu hL h1.1
      omega
    exact ⟨fun u hu hL _ => ex u hu hL, ex f hf hfL, fun u hu hL _ => ex u hu hL⟩
theorem c_countMoves (hV : VOK V) (hA : VA σ j V) (hR : REP σ j V) (ht : isSt V t) (hf : isSt V f) (hD : DIST V (fun x => x = t) F) (hS : SI V (fun x => x = t) F L (Kf σ i)) (hfL : F f / 4096 < L) (h : ∀ τ, FR (hpP i) σ τ → HOPS V F L f (Hp τ i) → Q (.inl none) τ) : WP mX5_countMoves 0 [vR 6 i, vR 2 j, vI t, vI f, vU] [] σ Q := by
  have htb := st_bd hV ht
  have hfb := st_bd hV hf
  have hcb := hV.cod
  have hKb : ∀ u, isSt V u → 0 ≤ Kf σ i u ∧ Kf σ i u ≤ 1000000 := fun u hu => by
    have := (hS.1 u hu).1
    have := (hS.1 u hu).2.1
    have := (hD u hu).1
    omega
  have key : ∀ n a : Nat, n + a = 1024 → ∀ τ (q : Nat), FR (hpP i) σ τ → τ 6 i 3 = q → BQ V (Kf σ i) t (Hp τ i) (τ 39 i) a q → WP mX5_countMoves 38 [vR 6 i, vR 2 j, vU, vI f, vI (a : Int)] [] τ Q := by
    intro n
    induction n with
    | zero =>
      intro a hn τ q t1 tq tB
      have q1 : q ≤ 1024 := by rw [tB.2.2.2.2.2.2.1]; exact cnt_bd _ _
      have haq := tB.2.2.2.2.2.2.2.2
      exact b_X5_countMoves_38 ⟨fun _ => h τ t1 (tB.fin hV hD hS ht hf hfL (Or.inl (by omega))), fun z => by omega⟩
    | succ n ih =>
      intro a hn τ q t1 tq tB
      have haq := tB.2.2.2.2.2.2.2.2
      refine b_X5_countMoves_38 ?_
      rw [tq]
      refine ⟨fun z => by omega, fun _ => ⟨fun z => h τ t1 (tB.fin hV hD hS ht hf hfL (Or.inl (by omega))), fun z => ⟨⟨by omega, by omega⟩, fun w => h τ t1 (tB.fin hV hD hS ht hf hfL (Or.inr w)), fun w => ⟨⟨by omega, by omega⟩, ?_⟩⟩⟩⟩
      have hA' : VA τ j V := hA.fr t1 (fun c k hc z => by unfold hpP at z; omega)
      have hR' : REP τ j V := hR.fr t1 (fun k z => by unfold hpP at z; omega)
      rw [Int.toNat_natCast]
      refine c_reachBack hV hA' hR' (K := Kf σ i) (fun u => t1 37 i _ (fun z => by unfold hpP at z; omega)) hKb tB (by omega) tq ht (fun υ q' u1 u2 u3 => ?_)
      show WP mX5_countMoves 78 [vR 6 i, vR 2 j, vU, vI f, vI (a : Int)] [] υ Q
      exact b_X5_countMoves_78 ⟨by unfold in32; omega, ih (a + 1) (by omega) υ q' (t1.tr u1) u2 u3⟩
  refine b_X5_countMoves_0 (c_fillTo (by omega) rfl rfl (by omega) rfl ?_)
  show WP mX5_countMoves 16 [vR 6 i, vR 2 j, vI t, vI f, vU] [] _ Q
  rw [hA.2.1.2]
  refine b_X5_countMoves_16 ⟨⟨by omega, by omega⟩, ?_⟩
  have g38 : ∀ u, isSt V u → Hp (up (up (up (upR σ 38 i 0 (min (cod V).toNat (al 38)) (fun _ => 1000000)) 38 i t.toNat 0) 39 i 0 t) 6 i 3 1) i u = if u = t then 0 else 1000000 := fun u hu => by
    unfold Hp
    rw [up_c (by omega), up_c (by omega)]
    by_cases e : u = t
    · rw [if_pos e, e, up_s]
    · rw [if_neg e, up_j (ne_nat hu ht e)]
      have := hu.1
      unfold inC at this
      unfold upR
      rw [if_pos ⟨rfl, rfl, by omega, by show u.toNat < 0 + min (cod V).toNat 1024; omega⟩]
  have g39 : (up (up (up (upR σ 38 i 0 (min (cod V).toNat (al 38)) (fun _ => 1000000)) 38 i t.toNat 0) 39 i 0 t) 6 i 3 1) 39 i 0 = t := by rw [up_c (by omega), up_s]
  have g6 : (up (up (up (upR σ 38 i 0 (min (cod V).toNat (al 38)) (fun _ => 1000000)) 38 i t.toNat 0) 39 i 0 t) 6 i 3 1) 6 i 3 = ((1 : Nat) : Int) := up_s _ _ _ _ _
  have gF : FR (hpP i) σ (up (up (up (upR σ 38 i 0 (min (cod V).toNat (al 38)) (fun _ => 1000000)) 38 i t.toNat 0) 39 i 0 t) 6 i 3 1) := (((FR.rf.uR (fun k _ _ => ⟨rfl, by omega⟩)).u ⟨rfl, by omega⟩).u ⟨rfl, by omega⟩).u ⟨rfl, by omega⟩
  generalize (up (up (up (upR σ 38 i 0 (min (cod V).toNat (al 38)) (fun _ => 1000000)) 38 i t.toNat 0) 39 i 0 t) 6 i 3 1) = τ at *
  have hpt : Hp τ i t = 0 := by rw [g38 t ht, if_pos rfl]
  refine key 1024 0 (by omega) τ 1 gF g6 ⟨fun b hb => ?_, fun b c hbc hc => by omega, fun c hc b _ hb => ?_, fun u hu hne => ?_, fun b hb => by omega, fun u hu hne => ?_, ?_, hpt, by omega⟩
  · rw [show b = 0 by omega, g39, hpt]; exact ⟨ht, by omega, by omega⟩
  · rw [show b = 0 by omega, show c = 0 by omega]; omega
  · by_cases e : u = t
    · exact ⟨0, by omega, by rw [g39, e]⟩
    · rw [g38 u hu, if_neg e] at hne; exact absurd rfl hne
  · by_cases e : u = t
    · exact Or.inl ⟨e, by rw [e]; exact hpt⟩
    · rw [g38 u hu, if_neg e] at hne; exact absurd rfl hne
  · rw [cnt_add (P := fun _ => False) (Q := fun k => isSt V (k : Int) ∧ Hp τ i (k : Int) ≠ 1000000) (m := t.toNat) (n := 1024) (by omega) (fun k _ hk => ⟨fun z => z.elim, fun z => ?_⟩) (by rw [Int.toNat_of_nonneg htb.1, hpt]; exact ⟨ht, by omega⟩) (fun z => z), cnt_0 (fun k _ z => z)]
    rw [g38 _ z.1, if_neg (by omega)] at z
    exact z.2 rfl
theorem c_leastNext (hV : VOK V) (hA : VA σ j V) (hR : REP σ j V) (hs : isSt V s) (hKb : ∀ u, isSt V u → 0 ≤ Kf σ i u ∧ Kf σ i u ≤ 1000000) (hHs : 0 ≤ Hp σ i s ∧ Hp σ i s ≤ 1000000) (hex : ∃ u c, Mv V s u c ∧ Hp σ i u = Hp σ i s - 1 ∧ Kf σ i s = Kf σ i u + c) (h : ∀ u, (∃ c, Mv V s u c ∧ Hp σ i u = Hp σ i s - 1 ∧ Kf σ i s = Kf σ i u + c) → (∀ w c, Mv V s w c → Hp σ i w = Hp σ i s - 1 → Kf σ i s = Kf σ i w + c → u ≤ w) → Q (.inl (some (vI u))) σ) : WP mX5_leastNext 0 [vR 6 i, vR 2 j, vI s, vU, vU, vU, vU] [] σ Q := by
  have hsb := st_bd hV hs
  have hm := hA.2.2.2.2.1
  have hpe := hV.pe
  have hha := hV.ha
  refine b_X5_leastNext_0 ?_
  obtain ⟨cd, ecd⟩ : ∃ cd : Nat → Int → Prop, ∀ k u, cd k u ↔ u = wi V s (σ 58 j k).toNat (σ 59 j k) ∧ Hp σ i u = Hp σ i s - 1 ∧ Kf σ i s = Kf σ i u + (if tbit (ans V s (σ 58 j k).toNat) (σ 59 j k).toNat = true then 0 else sl V (σ 59 j k).toNat) := ⟨_, fun _ _ => Iff.rfl⟩
  have mvk : ∀ k : Nat, (k : Int) < σ 10 j 13 → Mv V s (wi V s (σ 58 j k).toNat (σ 59 j k)) (if tbit (ans V s (σ 58 j k).toNat) (σ 59 j k).toNat = true then 0 else sl V (σ 59 j k).toNat) := fun k hk => by
    obtain ⟨p, p1, p2, p3, p4, p5⟩ := hA.2.2.2.2.2.1 k hk
    rw [p3, Int.toNat_natCast]
    exact ⟨p, p1, p2, σ 59 j k, p4, p5, rfl, rfl⟩
  have kmv : ∀ u c, Mv V s u c → Hp σ i u = Hp σ i s - 1 → Kf σ i s = Kf σ i u + c → ∃ k : Nat, (k : Int) < σ 10 j 13 ∧ cd k u := fun u c hmv h1 h2 => by
    obtain ⟨p, p1, p2, x, x0, x1, x2, x3⟩ := hmv
    obtain ⟨k, k1, k2, k3⟩ := hA.2.2.2.2.2.2 p p1 p2 x x0 x1
    refine ⟨k, k1, (ecd k u).mpr ?_⟩
    rw [k2, k3, Int.toNat_natCast, ← x3]
    exact ⟨x2, h1, h2⟩
  have key : ∀ n k : Nat, ((n + k : Nat) : Int) = σ 10 j 13 → ∀ b, ((b = 1000000 ∧ ∀ k' : Nat, k' < k → ∀ u, ¬ cd k' u) ∨ (b < 1000000 ∧ (∃ k' : Nat, k' < k ∧ cd k' b) ∧ ∀ k' : Nat, k' < k → ∀ u, cd k' u → b ≤ u)) → WP mX5_leastNext 6 [vR 6 i, vR 2 j, vI s, vI b, vI (k : Int), vU, vU] [] σ Q := by
    intro n
    induction n with
    | zero =>
      intro k hk b hb
      refine b_X5_leastNext_6 ⟨fun _ => ⟨fun z => ?_, fun z => ?_⟩, fun z => by omega⟩
      · rcases hb with ⟨hb, _⟩ | ⟨_, ⟨k', k1, k2⟩, hb⟩
        · exact absurd hb z
        · obtain ⟨e1, e2, e3⟩ := (ecd k' b).mp k2
          refine h b ⟨_, by rw [e1]; exact mvk k' (by omega), e2, e3⟩ (fun w c w1 w2 w3 => ?_)
          obtain ⟨k'', q1, q2⟩ := kmv w c w1 w2 w3
          exact hb k'' (by omega) w q2
      · obtain ⟨u, c, u1, u2, u3⟩ := hex
        obtain ⟨k', q1, q2⟩ := kmv u c u1 u2 u3
        rcases hb with ⟨_, hb⟩ | ⟨hb, _⟩
        · exact absurd q2 (hb k' (by omega) u)
        · omega
    | succ n ih =>
      intro k hk b hb
      have hkt : (k : Int) < σ 10 j 13 := by omega
      obtain ⟨p, p1, p2, p3, p4, p5, p6, p7, p8⟩ := bes_eq hV hA hR hs hkt
      have hsd := bes_sides hV hA hR hs hkt
      have hbst := isSt_wi hV hs p1 p2 p4 p5
      have hbb := st_bd hV hbst
      obtain ⟨q1, q2⟩ := prc_eq hV hA hR hs hbst p1
      rw [hab_wi_same hV hs.1.1 p4 p5] at q1 q2
      have hsl := hV.sl (σ 59 j k).toNat (by omega)
      have hks := hKb s hs
      have hkb := hKb _ hbst
      have ecdk : ∀ u, cd k u ↔ u = wi V s p (σ 59 j k) ∧ Hp σ i u = Hp σ i s - 1 ∧ Kf σ i s = Kf σ i u + (if tbit (ans V s p) (σ 59 j k).toNat = true then 0 else sl V (σ 59 j k).toNat) := fun u => by
        rw [ecd, p3, Int.toNat_natCast]
      have cvb : 0 ≤ (if tbit (ans V s p) (σ 59 j k).toNat = true then 0 else sl V (σ 59 j k).toNat) ∧ (if tbit (ans V s p) (σ 59 j k).toNat = true then 0 else sl V (σ 59 j k).toNat) ≤ 3 := by split <;> omega
      have go : ∀ b', ((b' = 1000000 ∧ ∀ k' : Nat, k' < k + 1 → ∀ u, ¬ cd k' u) ∨ (b' < 1000000 ∧ (∃ k' : Nat, k' < k + 1 ∧ cd k' b') ∧ ∀ k' : Nat, k' < k + 1 → ∀ u, cd k' u → b' ≤ u)) → in32 ((k : Int) + 1) ∧ WP mX5_leastNext 6 [vR 6 i, vR 2 j, vI s, vI b', vI ((k : Int) + 1), vU, vU] [] σ Q := fun b' hb' => ⟨by unfold in32; omega, ih (k + 1) (by omega) b' hb'⟩
      have same : (∀ u, cd k u → b ≤ u) → ((∃ u, cd k u) → b ≠ 1000000) → in32 ((k : Int) + 1) ∧ WP mX5_leastNext 6 [vR 6 i, vR 2 j, vI s, vI b, vI ((k : Int) + 1), vU, vU] [] σ Q := fun hz hz2 => go b (by
        rcases hb with ⟨b1, b2⟩ | ⟨b1, ⟨k', k1, k2⟩, b2⟩
        · refine Or.inl ⟨b1, fun k' hk' u hu => ?_⟩
          by_cases e : k' = k
          · rw [e] at hu; exact hz2 ⟨u, hu⟩ b1
          · exact b2 k' (by omega) u hu
        · refine Or.inr ⟨b1, ⟨k', by omega, k2⟩, fun k'' hk'' u hu => ?_⟩
          by_cases e : k'' = k
          · rw [e] at hu; exact hz u hu
          · exact b2 k'' (by omega) u hu)
      have no : (∀ u, ¬ cd k u) → in32 ((k : Int) + 1) ∧ WP mX5_leastNext 6 [vR 6 i, vR 2 j, vI s, vI b, vI ((k : Int) + 1), vU, vU] [] σ Q := fun hz => same (fun u hu => absurd hu (hz u)) (fun ⟨u, hu⟩ => absurd hu (hz u))
      have eHs : Hp σ i s = σ 38 i s.toNat := rfl
      refine b_X5_leastNext_6 ?_
      simp only [Int.toNat_natCast]
      rw [p8]
      rw [p8] at hsd
      rw [p3] at hsd ⊢
      have t0 : ∀ {x5 : Int}, (in32 ((k : Int) + 1) ∧ WP mX5_leastNext 6 [vR 6 i, vR 2 j, vI s, vI b, vI ((k : Int) + 1), vU, vU] [] σ Q) → WP mX5_leastNext 55 [vR 6 i, vR 2 j, vI s, vI b, vI (k : Int), vI x5, vU] [] σ Q := fun hz => b_X5_leastNext_55 (b_X5_leastNext_56 ⟨fun _ => hz, fun z => absurd rfl z⟩)
      refine ⟨fun z => by omega, fun _ => ⟨hsd, fun hle => t0 (same (fun u hu => by rw [((ecdk u).mp hu).1]; exact hle) (fun _ z => by omega)), fun hlt => ⟨⟨by omega, by omega⟩, ⟨by omega, by omega⟩, by unfold in32; omega, fun hne => t0 (no (fun u hu => ?_)), fun heq => ?_⟩⟩⟩
      · obtain ⟨e1, e2, e3⟩ := (ecdk u).mp hu
        rw [e1] at e2
        exact hne e2
      · refine b_X5_leastNext_56 ?_
        simp only [Int.toNat_natCast]
        rw [p3, q1, q2]
        have eK : ∀ u : Int, σ 37 i u.toNat = Kf σ i u := fun _ => rfl
        rw [eK, eK]
        refine ⟨fun z => by omega, fun _ => ⟨⟨by omega, by omega⟩, ⟨by omega, by omega⟩, ⟨by omega, by omega⟩, ⟨by omega, by omega, by omega, by omega, by omega, by omega, by omega, by omega⟩, by unfold in32; omega, fun hne => no (fun u hu => ?_), fun hee => go _ (Or.inr ⟨by omega, ⟨k, by omega, (ecdk _).mpr ⟨rfl, heq, hee⟩⟩, fun k' hk' u hu => ?_⟩)⟩⟩
        · obtain ⟨e1, e2, e3⟩ := (ecdk u).mp hu
          rw [e1] at e3
          exact hne e3
        · by_cases e : k' = k
          · rw [e] at hu
            rw [((ecdk u).mp hu).1]; omega
          · rcases hb with ⟨b1, b2⟩ | ⟨b1, _, b2⟩
            · exact absurd hu (b2 k' (by omega) u)
            · have := b2 k' (by omega) u hu; omega
  exact key (σ 10 j 13).toNat 0 (by omega) 1000000 (Or.inl ⟨rfl, fun k' hk' => by omega⟩)
def wsP (c i _j : Nat) : Prop := c = 63 ∧ i = 0
theorem c_trace (hV : VOK V) (hA : VA σ j V) (hR : REP σ j V) (ht : isSt V t) (hf : isSt V f) (hD : DIST V (fun x => x = t) F) (hS : SI V (fun x => x = t) F L (Kf σ i)) (hfL : F f / 4096 < L) (hH : HOPS V F L f (Hp σ i)) (h : ∀ τ, FR wsP σ τ → WAY V F f t (τ 63 0) (F f % 4096).toNat → Q (.inl (some (vI (F f % 4096)))) τ) : WP mX5_trace 0 [vR 6 i, vR 2 j, vI f, vR 63 0, vU, vU, vU] [] σ Q := by
  have hfb := st_bd hV hf
  have hcm := hD.cm hV
  have hKb : ∀ u, isSt V u → 0 ≤ Kf σ i u ∧ Kf σ i u ≤ 1000000 := fun u hu => by
    have := (hS.1 u hu).1
    have := (hS.1 u hu).2.1
    have := (hD u hu).1
    omega
  have eKf : ∀ τ, FR wsP σ τ → Kf τ i = Kf σ i := fun τ t1 => by funext u; exact t1 37 i _ (fun z => by unfold wsP at z; omega)
  have eHp : ∀ τ, FR wsP σ τ → Hp τ i = Hp σ i := fun τ t1 => by funext u; exact t1 38 i _ (fun z => by unfold wsP at z; omega)
  have hf1 := (hcm f hf).1
  -- the nearer ones
  have eqv : ∀ s, isSt V s → F s / 4096 < L → F s % 4096 ≤ F f % 4096 → Hp σ i s = F s % 4096 → ∀ u c, Mv V s u c → ((Hp σ i u = Hp σ i s - 1 ∧ Kf σ i s = Kf σ i u + c) ↔ F s = F u + 4096 * c + 1) := fun s hs hsL hsm hsh u c hmv => by
    have hu := hmv.st hV hs
    have hcb := hmv.bd hV
    have hks := (hS.1 s hs).2.2.1 hsL
    have hku := hS.1 u hu
    have hu1 := (hcm u hu).1
    have hs1 := (hcm s hs).1
    have hu0 := (hD u hu).1
    have hs0 := (hD s hs).1
    refine ⟨fun ⟨z1, z2⟩ => ?_, fun z => ?_⟩
    · have huL : F u / 4096 < L := by omega
      have e1 := hku.2.2.1 huL
      have e2 := hH.1 u hu huL (by omega)
      omega
    · have huL : F u / 4096 < L := by omega
      have e1 := hku.2.2.1 huL
      have e2 := hH.2.2 u hu huL (by omega)
      omega
  have key : ∀ (n k : Nat) (s : Int) (τ : St), ((n + k : Nat) : Int) = F f % 4096 → isSt V s → F s / 4096 < L → F s % 4096 = n → Hp σ i s = F s % 4096 → FR wsP σ τ → τ 63 0 0 = f → τ 63 0 k = s → (∀ a : Nat, a < k → isSt V (τ 63 0 a) ∧ NXT V F (τ 63 0 a) (τ 63 0 (a + 1))) → WP mX5_trace 28 [vR 6 i, vR 2 j, vU, vR 63 0, vI s, vI (F f % 4096), vI ((k : Int) + 1)] [] τ Q := by
    intro n
    induction n with
    | zero =>
      intro k s τ hk hs hsL hn hsh t1 t0 tk tw
      have hst : s = t := by
        apply Classical.byContradiction
        intro z
        obtain ⟨u, c, u1, u2, u3, u4⟩ := (hcm s hs).2 z
        have := (hcm u (u1.st hV hs)).1
        have := (hD u (u1.st hV hs)).1
        omega
      refine b_X5_trace_28 ⟨fun _ => h τ t1 ⟨t0, fun a ha => tw a (by omega), ?_, by omega⟩, fun z => by omega⟩
      rw [show (F f % 4096).toNat = k by omega, tk, hst]
    | succ n ih =>
      intro k s τ hk hs hsL hn hsh t1 t0 tk tw
      have hA' : VA τ j V := hA.fr t1 (fun c k hc z => by unfold wsP at z; omega)
      have hR' : REP τ j V := hR.fr t1 (fun k z => by unfold wsP at z; omega)
      have hst : s ≠ t := fun z => by
        rw [z, (hD t ht).2.1 rfl] at hn
        omega
      have ev := eqv s hs hsL (by omega) hsh
      refine b_X5_trace_28 ⟨fun z => by omega, fun _ => ?_⟩
      have hs1 := (hcm s hs).1
      refine c_leastNext hV hA' hR' hs (by rw [eKf τ t1]; exact hKb) (by rw [eHp τ t1]; omega) ?_ ?_
      · rw [eHp τ t1, eKf τ t1]
        obtain ⟨u, c, u1, u2⟩ := (hD s hs).2.2.2 hst
        have := (ev u c u1).mpr u2
        exact ⟨u, c, u1, this.1, this.2⟩
      · rw [eHp τ t1, eKf τ t1]
        intro u ⟨c, c1, c2, c3⟩ hmin
        have hu := c1.st hV hs
        have hub := (hcm u hu).1
        have hcb := c1.bd hV
        have hFu := (ev u c c1).mp ⟨c2, c3⟩
        have hu0 := (hD u hu).1
        have hnx : NXT V F s u := ⟨⟨c, c1, hFu⟩, fun w d d1 d2 => by
          have := (ev w d d1).mpr d2
          exact hmin w d d1 this.1 this.2⟩
        show WP mX5_trace 42 [vR 6 i, vR 2 j, vU, vR 63 0, vU, vI (F f % 4096), vI ((k : Int) + 1)] [vI u] τ Q
        refine b_X5_trace_42 ⟨⟨by omega, by omega⟩, by unfold in32; omega, ?_⟩
        rw [show ((k : Int) + 1).toNat = k + 1 by omega, show ((k : Int) + 1) = ((k + 1 : Nat) : Int) by push_cast; rfl]
        have e63 : ∀ x, (up τ 63 0 (k + 1) u) 63 0 x = if x = k + 1 then u else τ 63 0 x := fun x => by simp [up]
        refine ih (k + 1) u _ (by omega) hu (by omega) (by omega) (by omega) (t1.u ⟨rfl, rfl⟩) (by rw [e63, if_neg (by omega)]; exact t0) (by rw [e63, if_pos rfl]) (fun a ha => ?_)
        rw [e63, e63, if_neg (by omega)]
        by_cases e : a = k
        · rw [if_pos (by omega), e, tk]; exact ⟨hs, hnx⟩
        · rw [if_neg (by omega)]; exact tw a (by omega)
  refine b_X5_trace_0 ?_
  rw [show σ 38 i f.toNat = F f % 4096 from hH.2.1]
  refine ⟨⟨by omega, by omega⟩, fun _ => ?_, fun z => by omega⟩
  exact key (F f % 4096).toNat 0 f _ (by omega) hf hfL (by omega) hH.2.1 (FR.rf.u ⟨rfl, rfl⟩) (up_s _ _ _ _ _) (up_s _ _ _ _ _) (fun a ha => by omega)
end Trace
