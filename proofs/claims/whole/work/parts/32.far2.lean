/-! ===== findFar, markState, markRest ===== -/
theorem sm_le {f g : Nat → Int} : ∀ {n : Nat}, (∀ k, k < n → g k ≤ f k) → sm g n ≤ sm f n := by
  intro n
  induction n with
  | zero => intro _; exact Int.le_refl _
  | succ n ih => intro h; rw [sm, sm]; have := ih (fun k hk => h k (by omega)); have := h n (by omega); omega
theorem sm_lt {f g : Nat → Int} {m : Nat} : ∀ {n : Nat}, m < n → (∀ k, k < n → g k ≤ f k) → g m < f m → sm g n < sm f n := by
  intro n
  induction n with
  | zero => intro h; omega
  | succ n ih =>
    intro hm h hl
    rw [sm, sm]
    by_cases e : m = n
    · subst e
      have := sm_le (f := f) (g := g) (n := m) (fun k hk => h k (by omega))
      omega
    · have := ih (by omega) (fun k hk => h k (by omega)) hl
      have := h n (by omega)
      omega
theorem sm_nn {f : Nat → Int} {n : Nat} (h : ∀ k, k < n → 0 ≤ f k) : 0 ≤ sm f n := by
  have := sm_le (f := f) (g := fun _ => 0) (n := n) h
  rw [sm_0] at this
  exact this
def farP (c i _j : Nat) : Prop := c = 90 ∧ i = 0
def mkP (c i _j : Nat) : Prop := (c = 90 ∨ c = 89) ∧ i = 0
section Far2
variable {σ : St} {Q : Res → St → Prop} {V : Vy} {s : Int}
theorem FI_dist {Tg : Int → Prop} {f : Int → Int} (hV : VOK V) (hI : FI V Tg f) (hR : ∀ s, isSt V s → RLX V f s) {t : Int} (ht : isSt V t) (hT : Tg t) : DIST V Tg f := by
  have hle := far_le hV ht ((hI t ht).2.1 hT) (F := f) (fun s u c hs hm hu => by
    have hb := hm.bd hV
    by_cases e : u = s
    · subst e; omega
    · exact hR s hs u c hm e (by omega))
  intro s hs
  have hi := hI s hs
  refine ⟨hi.1.1, hi.2.1, fun u c hm => ?_, fun hn => ?_⟩
  · have hb := hm.bd hV
    by_cases e : u = s
    · subst e; omega
    · exact hR s hs u c hm e (by have := hle u (hm.st hV hs); omega)
  · rcases hi.2.2 hn with z | ⟨u, c, hm, hu⟩
    · have := hle s hs; omega
    · have hb := hm.bd hV
      have e : u ≠ s := by rintro rfl; omega
      have := hR s hs u c hm e (by have := hle u (hm.st hV hs); omega)
      exact ⟨u, c, hm, by omega⟩
theorem FI_none {Tg : Int → Prop} {f : Int → Int} (hV : VOK V) (hI : FI V Tg f) (hn : ∀ t, isSt V t → ¬ Tg t) : ∀ s, isSt V s → f s = 1000000000 := by
  have key : ∀ n : Nat, ∀ s, isSt V s → f s < n → f s = 1000000000 := by
    intro n
    induction n with
    | zero => intro s hs h; have := (hI s hs).1; omega
    | succ n ih =>
      intro s hs h
      rcases (hI s hs).2.2 (hn s hs) with z | ⟨u, c, hm, hu⟩
      · exact z
      · have hb := hm.bd hV
        have := ih u (hm.st hV hs) (by omega)
        have := (hI s hs).1
        omega
  intro s hs
  exact key ((f s).toNat + 1) s hs (by have := (hI s hs).1; omega)
def TgM (σ : St) (V : Vy) (s : Int) : Prop := isSt V s ∧ σ 89 0 s.toNat ≠ 0
theorem d_findFar (hV : VOK V) (hT : MT σ V) (hR : MRP σ V) (h : ∀ τ, FR farP σ τ → ((∃ t, TgM σ V t) → DIST V (TgM σ V) (far τ)) → ((∀ t, ¬ TgM σ V t) → ∀ s, isSt V s → far τ s = 1000000000) → Q (.inl none) τ) : WP mX13_findFar 0 [vR 14 0, vU, vU] [] σ Q := by
  have hpe := hV.pe
  have hc := hV.cod
  have hc0 := cod_pos hV
  have hTf : ∀ τ, FR farP σ τ → MT τ V := fun τ hF => hT.fr hF (fun c j hc z => by unfold farP at z; omega)
  have hRf : ∀ τ, FR farP σ τ → MRP τ V := fun τ hF => hR.fr hF (fun c j hc z => by unfold farP at z; omega)
  have h88 : ∀ τ, FR farP σ τ → ∀ x : Nat, (x : Int) < cod V → τ 88 0 x = b2 (isSt V (x : Int)) := fun τ hF x hx => (hRf τ hF).1 x hx
  let S : St → Int := fun τ => sm (fun k => τ 90 0 k) (cod V).toNat
  -- the loop
  have loop : ∀ n : Nat, ∀ τ m, FR farP σ τ → FI V (TgM σ V) (far τ) → (∀ k : Nat, (k : Int) < cod V → 0 ≤ τ 90 0 k) → (m = 0 ∨ m = 1) → (m = 0 → ∀ s, isSt V s → RLX V (far τ) s) → S τ < n → WP mX13_findFar 49 [vR 14 0, vI m, vU] [] τ Q := by
    intro n
    induction n with
    | zero => intro τ m _ _ hn _ _ hS; have := sm_nn (f := fun k => τ 90 0 k) (n := (cod V).toNat) (fun k hk => hn k (by omega)); have : (0 : Int) ≤ S τ := this; omega
    | succ n ih =>
      intro τ m hF hI hn hm hr hS
      refine b_X13_findFar_49 ⟨fun h0 => h τ hF (fun ⟨t, ht⟩ => FI_dist hV hI (hr h0) ht.1 ht) (fun hno => FI_none hV hI (fun t _ => hno t)), fun h0 => ?_⟩
      -- a step of a pass: nears
      have pass : ∀ (υ : St) (mm : Int) (x : Nat), FR farP σ υ → FI V (TgM σ V) (far υ) → (∀ k : Nat, (k : Int) < cod V → 0 ≤ υ 90 0 k) → (mm = 0 ∨ mm = 1) → (mm = 0 → ∀ k, υ 90 0 k = τ 90 0 k) → (mm = 1 → S υ < S τ) → S υ ≤ S τ → isSt V (x : Int) → ∀ (K : Int → St → Prop), (∀ ω b, FR farP σ ω → FI V (TgM σ V) (far ω) → (∀ k : Nat, (k : Int) < cod V → 0 ≤ ω 90 0 k) → (b = 0 ∨ b = 1) → S ω ≤ S υ → (b = 0 → ∀ k, ω 90 0 k = υ 90 0 k) → (b = 1 → S ω < S υ) → RLX V (far ω) x → K b ω) → WP mX13_nears 0 [vR 14 0, vI (x : Int), vU, vU, vU] [] υ (fun r ω => match r with | .inl (some (.inl b)) => K b ω | _ => False) := by
        intro υ mm x q1 q2 q3 q4 q5 q6 q7 hx K hK
        have hxb := st_bd hV hx
        have hxc := hx.1.2
        refine d_nears (Tg := TgM σ V) hV (hTf υ q1) (hRf υ q1) hx q2 (fun ω w1 w2 w3 w4 b w5 w6 => ?_)
        have wF : FR farP σ ω := q1.tr (w1.wk (fun c i j z => by unfold oneP at z; unfold farP; omega))
        have wo : ∀ k, k ≠ x → ω 90 0 k = υ 90 0 k := fun k hk => w1 _ _ _ (fun z => by unfold oneP at z; omega)
        have wx : ω 90 0 x ≤ υ 90 0 x := w3
        have wn : ∀ k : Nat, (k : Int) < cod V → 0 ≤ ω 90 0 k := fun k hk => by
          by_cases e : k = x
          · rw [e]; exact (w2 x hx).1.1
          · rw [wo k e]; exact q3 k hk
        have wle : ∀ k, ω 90 0 k ≤ υ 90 0 k := fun k => by
          by_cases e : k = x
          · rw [e]; exact wx
          · rw [wo k e]; omega
        refine hK ω b wF w2 wn w5 (sm_le (fun k _ => wle k)) (fun hb k => ?_) (fun hb => ?_) w4
        · by_cases e : k = x
          · rw [e]
            have : ¬ far ω x < far υ x := fun z => by have := w6.mpr z; omega
            have h1 : ¬ ω 90 0 x < υ 90 0 x := this
            omega
          · exact wo k e
        · exact sm_lt (m := x) (by omega) (fun k _ => wle k) (w6.mp hb)
      have conv : ∀ {x : Nat} {υ : St} {pc : Nat} {mm : Int}, WP mX13_nears 0 [vR 14 0, vI (x : Int), vU, vU, vU] [] υ (fun r ω => match r with | .inl (some (.inl b)) => WP mX13_findFar pc [vR 14 0, vI mm, vI (x : Int)] [vI b] ω Q | _ => False) → WP mX13_nears 0 [vR 14 0, vI (x : Int), vU, vU, vU] [] υ (CT mX13_findFar pc [vR 14 0, vI mm, vI (x : Int)] [] Q) := fun {x υ pc mm} hw => WP.mono hw (fun r ω z => by
        match r, z with
        | .inl (some (.inl b)), z => exact z)
      have pass2 : ∀ x : Nat, (x : Int) ≤ cod V → ∀ (υ : St) (mm : Int), FR farP σ υ → FI V (TgM σ V) (far υ) → (∀ k : Nat, (k : Int) < cod V → 0 ≤ υ 90 0 k) → (mm = 0 ∨ mm = 1) → (mm = 0 → (∀ k, υ 90 0 k = τ 90 0 k) ∧ ∀ s, isSt V s → RLX V (far υ) s) → (mm = 1 → S υ < S τ) → S υ ≤ S τ → WP mX13_findFar 105 [vR 14 0, vI mm, vI ((x : Int) - 1)] [] υ Q := by
        intro x
        induction x with
        | zero =>
          intro _ υ mm q1 q2 q3 q4 q5 q6 q7
          refine b_X13_findFar_105 ⟨fun _ => ?_, fun z => by omega⟩
          by_cases e : mm = 0
          · refine b_X13_findFar_49 ⟨fun _ => h υ q1 (fun ⟨t, ht⟩ => FI_dist hV q2 (q5 e).2 ht.1 ht) (fun hno => FI_none hV q2 (fun t _ => hno t)), fun z => absurd e z⟩
          · have := q6 (by omega)
            exact ih υ mm q1 q2 q3 q4 (fun z => absurd z e) (by omega)
        | succ x ihx =>
          intro hxc υ mm q1 q2 q3 q4 q5 q6 q7
          refine b_X13_findFar_105 ?_
          rw [show (((x + 1 : Nat) : Int) - 1) = (x : Int) by omega, Int.toNat_natCast, h88 υ q1 x (by omega)]
          have go : ∀ (ω : St) (mm : Int), FR farP σ ω → FI V (TgM σ V) (far ω) → (∀ k : Nat, (k : Int) < cod V → 0 ≤ ω 90 0 k) → (mm = 0 ∨ mm = 1) → (mm = 0 → (∀ k, ω 90 0 k = τ 90 0 k) ∧ ∀ s, isSt V s → RLX V (far ω) s) → (mm = 1 → S ω < S τ) → S ω ≤ S τ → in32 ((x : Int) + (-1)) ∧ WP mX13_findFar 105 [vR 14 0, vI mm, vI ((x : Int) + (-1))] [] ω Q := fun ω mm w1 w2 w3 w4 w5 w6 w7 => ⟨by unfold in32; omega, ihx (by omega) ω mm w1 w2 w3 w4 w5 w6 w7⟩
          refine ⟨fun z => by omega, fun _ => ⟨⟨by omega, by omega⟩, fun hb => ⟨fun e => ?_, fun e => ?_⟩, fun hb => conv (pass υ mm x q1 q2 q3 q4 (fun e => (q5 e).1) q6 q7 (b2_ne hb) (fun b ω => WP mX13_findFar 123 [vR 14 0, vI mm, vI (x : Int)] [vI b] ω Q) (fun ω b w1 w2 w3 w4 w5 w6 w7 w8 => ?_))⟩⟩
          · exact go υ 0 q1 q2 q3 (Or.inl rfl) (fun _ => q5 e) (fun z => by omega) q7
          · exact go υ 1 q1 q2 q3 (Or.inr rfl) (fun z => by omega) (fun _ => q6 (by omega)) q7
          · refine b_X13_findFar_123 ⟨fun hb1 => go ω 1 w1 w2 w3 (Or.inr rfl) (fun z => by omega) (fun _ => by have := w7 (by omega); omega) (by omega), fun hb0 => ⟨fun e => ?_, fun e => ?_⟩⟩
            · have hk := w6 hb0
              refine go ω 0 w1 w2 w3 (Or.inl rfl) (fun _ => ⟨fun k => by rw [hk k]; exact (q5 e).1 k, fun s hs => ?_⟩) (fun z => by omega) (by omega)
              have e2 : far ω = far υ := by funext y; exact hk _
              rw [e2]; exact (q5 e).2 s hs
            · exact go ω 1 w1 w2 w3 (Or.inr rfl) (fun z => by omega) (fun _ => by have := q6 (by omega); omega) (by omega)
      have pass1 : ∀ k x : Nat, ((k + x : Nat) : Int) = cod V → ∀ (υ : St) (mm : Int), FR farP σ υ → FI V (TgM σ V) (far υ) → (∀ k : Nat, (k : Int) < cod V → 0 ≤ υ 90 0 k) → (mm = 0 ∨ mm = 1) → (mm = 0 → (∀ k, υ 90 0 k = τ 90 0 k) ∧ ∀ s, isSt V s → s < x → RLX V (far υ) s) → (mm = 1 → S υ < S τ) → S υ ≤ S τ → WP mX13_findFar 57 [vR 14 0, vI mm, vI (x : Int)] [] υ Q := by
        intro k
        induction k with
        | zero =>
          intro x hx υ mm q1 q2 q3 q4 q5 q6 q7
          refine b_X13_findFar_57 ?_
          rw [(hTf υ q1).all hV, (hTf υ q1).pe]
          refine ⟨⟨by omega, by omega⟩, fun _ => ⟨⟨by omega, by omega⟩, by unfold in32; omega, ?_⟩, fun z => by omega⟩
          rw [← hx]
          exact pass2 (0 + x) (by omega) υ mm q1 q2 q3 q4 (fun e => ⟨(q5 e).1, fun s hs => (q5 e).2 s hs (by have := hs.1.2; omega)⟩) q6 q7
        | succ k ihk =>
          intro x hx υ mm q1 q2 q3 q4 q5 q6 q7
          refine b_X13_findFar_57 ?_
          rw [(hTf υ q1).all hV, (hTf υ q1).pe, Int.toNat_natCast, h88 υ q1 x (by omega)]
          have go : ∀ (ω : St) (mm : Int), FR farP σ ω → FI V (TgM σ V) (far ω) → (∀ k : Nat, (k : Int) < cod V → 0 ≤ ω 90 0 k) → (mm = 0 ∨ mm = 1) → (mm = 0 → (∀ k, ω 90 0 k = τ 90 0 k) ∧ ∀ s, isSt V s → s < (x : Int) + 1 → RLX V (far ω) s) → (mm = 1 → S ω < S τ) → S ω ≤ S τ → in32 ((x : Int) + 1) ∧ WP mX13_findFar 57 [vR 14 0, vI mm, vI ((x : Int) + 1)] [] ω Q := fun ω mm w1 w2 w3 w4 w5 w6 w7 => ⟨by unfold in32; omega, ihk (x + 1) (by omega) ω mm w1 w2 w3 w4 w5 w6 w7⟩
          refine ⟨⟨by omega, by omega⟩, fun z => by omega, fun _ => ⟨⟨by omega, by omega⟩, fun hb => ⟨fun e => ?_, fun e => ?_⟩, fun hb => conv (pass υ mm x q1 q2 q3 q4 (fun e => (q5 e).1) q6 q7 (b2_ne hb) (fun b ω => WP mX13_findFar 79 [vR 14 0, vI mm, vI (x : Int)] [vI b] ω Q) (fun ω b w1 w2 w3 w4 w5 w6 w7 w8 => ?_))⟩⟩
          · refine go υ 0 q1 q2 q3 (Or.inl rfl) (fun _ => ⟨(q5 e).1, fun s hs hlt => ?_⟩) (fun z => by omega) q7
            by_cases e2 : s = x
            · rw [e2] at hs; exact absurd hs (b2_eq hb)
            · exact (q5 e).2 s hs (by omega)
          · exact go υ 1 q1 q2 q3 (Or.inr rfl) (fun z => by omega) (fun _ => q6 (by omega)) q7
          · refine b_X13_findFar_79 ⟨fun hb1 => go ω 1 w1 w2 w3 (Or.inr rfl) (fun z => by omega) (fun _ => by have := w7 (by omega); omega) (by omega), fun hb0 => ⟨fun e => ?_, fun e => ?_⟩⟩
            · have hk := w6 hb0
              refine go ω 0 w1 w2 w3 (Or.inl rfl) (fun _ => ⟨fun k => by rw [hk k]; exact (q5 e).1 k, fun s hs hlt => ?_⟩) (fun z => by omega) (by omega)
              by_cases e2 : s = x
              · rw [e2]; exact w8
              · have e3 : far ω = far υ := by funext y; exact hk _
                rw [e3]; exact (q5 e).2 s hs (by omega)
            · exact go ω 1 w1 w2 w3 (Or.inr rfl) (fun z => by omega) (fun _ => by have := q6 (by omega); omega) (by omega)
      exact pass1 (cod V).toNat 0 (by omega) τ 0 hF hI hn (Or.inl rfl) (fun _ => ⟨fun _ => rfl, fun s hs hlt => by have := hs.1.1; omega⟩) (fun z => by omega) (Int.le_refl _)
  refine b_X13_findFar_0 ?_
  have init : ∀ n x : Nat, ((n + x : Nat) : Int) = cod V → ∀ τ, FR farP σ τ → (∀ k : Nat, k < x → (TgM σ V (k : Int) → τ 90 0 k = 0) ∧ (¬ TgM σ V (k : Int) → τ 90 0 k = 1000000000)) → WP mX13_findFar 2 [vR 14 0, vI (x : Int), vU] [] τ Q := by
    intro n
    induction n with
    | zero =>
      intro x hx τ hF hk
      refine b_X13_findFar_2 ?_
      rw [(hTf τ hF).all hV, (hTf τ hF).pe]
      refine ⟨⟨by omega, by omega⟩, fun _ => ?_, fun z => by omega⟩
      refine loop ((S τ).toNat + 1) τ 1 hF (fun s hs => ?_) (fun k hk' => ?_) (Or.inr rfl) (fun z => by omega) (by omega)
      · have hb := hs.1
        unfold inC at hb
        have := hk s.toNat (by omega)
        rw [show ((s.toNat : Nat) : Int) = s by omega] at this
        unfold far
        by_cases e : TgM σ V s
        · rw [this.1 e]; exact ⟨by omega, fun _ => rfl, fun z => absurd e z⟩
        · rw [this.2 e]; exact ⟨by omega, fun z => absurd z e, fun _ => Or.inl rfl⟩
      · have := hk k (by omega)
        by_cases e : TgM σ V (k : Int)
        · rw [this.1 e]; omega
        · rw [this.2 e]; omega
    | succ n ih =>
      intro x hx τ hF hk
      have e89 : τ 89 0 x = σ 89 0 x := hF _ _ _ (fun z => by unfold farP at z; omega)
      refine b_X13_findFar_2 ?_
      rw [(hTf τ hF).all hV, (hTf τ hF).pe, Int.toNat_natCast, h88 τ hF x (by omega), e89]
      have go : ∀ v, ((TgM σ V (x : Int) → v = 0) ∧ (¬ TgM σ V (x : Int) → v = 1000000000)) → (0 ≤ (x : Int) ∧ (x : Int) < 1024) ∧ in32 ((x : Int) + 1) ∧ WP mX13_findFar 2 [vR 14 0, vI ((x : Int) + 1), vU] [] (up τ 90 0 x v) Q := fun v hv => ⟨⟨by omega, by omega⟩, by unfold in32; omega, ih (x + 1) (by omega) _ (hF.u ⟨rfl, rfl⟩) (fun k hk' => by
        by_cases e : k = x
        · rw [e, up_s]; exact hv
        · rw [up_j e]; exact hk k (by omega))⟩
      refine ⟨⟨by omega, by omega⟩, fun z => by omega, fun _ => ⟨⟨by omega, by omega⟩, fun hb => go _ ⟨fun z => absurd z.1 (b2_eq hb), fun _ => rfl⟩, fun hb => ⟨⟨by omega, by omega⟩, fun hm => go _ ⟨fun z => absurd hm z.2, fun _ => rfl⟩, fun hm => go _ ⟨fun _ => rfl, fun z => absurd ⟨b2_ne hb, hm⟩ z⟩⟩⟩⟩
  exact init (cod V).toNat 0 (by omega) σ FR.rf (fun k hk => by omega)
theorem DIST.cg {Tg Tg' : Int → Prop} {F : Int → Int} (h : DIST V Tg F) (hc : ∀ s, isSt V s → (Tg s ↔ Tg' s)) : DIST V Tg' F := fun s hs => by
  obtain ⟨h1, h2, h3, h4⟩ := h s hs
  exact ⟨h1, fun z => h2 ((hc s hs).mpr z), h3, fun z => h4 (fun w => z ((hc s hs).mp w))⟩
theorem d_markState {t : Int} (hV : VOK V) (hT : MT σ V) (hR : MRP σ V) (ht : isSt V t) (h : ∀ τ, FR mkP σ τ → DIST V (fun s => s = t) (far τ) → Q (.inl none) τ) : WP mX13_markState 0 [vR 14 0, vI t, vU] [] σ Q := by
  have hpe := hV.pe
  have hc := hV.cod
  have hc0 := cod_pos hV
  have htb := ht.1
  unfold inC at htb
  refine b_X13_markState_0 ?_
  have key : ∀ n x : Nat, ((n + x : Nat) : Int) = cod V → ∀ τ, FR mkP σ τ → (∀ k : Nat, k < x → (τ 89 0 k ≠ 0 ↔ (k : Int) = t)) → WP mX13_markState 2 [vR 14 0, vI t, vI (x : Int)] [] τ Q := by
    intro n
    induction n with
    | zero =>
      intro x hx τ hF hk
      have hT' : MT τ V := hT.fr hF (fun c j hc z => by unfold mkP at z; omega)
      have hR' : MRP τ V := hR.fr hF (fun c j hc z => by unfold mkP at z; omega)
      refine b_X13_markState_2 ?_
      rw [hT'.all hV, hT'.pe]
      refine ⟨⟨by omega, by omega⟩, fun _ => d_findFar hV hT' hR' (fun υ u1 u2 u3 => b_X13_markState_36 ?_), fun z => by omega⟩
      have cg : ∀ s, isSt V s → (TgM τ V s ↔ s = t) := fun s hs => by
        have hb := hs.1
        unfold inC at hb
        have := hk s.toNat (by omega)
        rw [show ((s.toNat : Nat) : Int) = s by omega] at this
        exact ⟨fun z => this.mp z.2, fun z => ⟨hs, this.mpr z⟩⟩
      exact h υ (hF.tr (u1.wk (fun c i j z => by unfold farP at z; unfold mkP; omega))) ((u2 ⟨t, (cg t ht).mpr rfl⟩).cg cg)
    | succ n ih =>
      intro x hx τ hF hk
      have hT' : MT τ V := hT.fr hF (fun c j hc z => by unfold mkP at z; omega)
      refine b_X13_markState_2 ?_
      rw [hT'.all hV, hT'.pe, Int.toNat_natCast]
      refine ⟨⟨by omega, by omega⟩, fun z => by omega, fun _ => ⟨fun hne => ⟨⟨by omega, by omega⟩, by unfold in32; omega, ih (x + 1) (by omega) _ (hF.u ⟨by omega, rfl⟩) (fun k hk' => ?_)⟩, fun he => ⟨⟨by omega, by omega⟩, by unfold in32; omega, ih (x + 1) (by omega) _ (hF.u ⟨by omega, rfl⟩) (fun k hk' => ?_)⟩⟩⟩
      · by_cases e : k = x
        · rw [e, up_s]; exact ⟨fun z => absurd rfl z, fun z => absurd z hne⟩
        · rw [up_j e]; exact hk k (by omega)
      · by_cases e : k = x
        · rw [e, up_s]; exact ⟨fun _ => he, fun _ => by omega⟩
        · rw [up_j e]; exact hk k (by omega)
  exact key (cod V).toNat 0 (by omega) σ FR.rf (fun k hk => by omega)
theorem d_markRest {r : Int} (hV : VOK V) (hT : MT σ V) (hR : MRP σ V) {t : Int} (ht : isSt V t) (hr : σ 83 0 t.toNat = r) (h : ∀ τ, FR mkP σ τ → DIST V (fun s => σ 83 0 s.toNat = r) (far τ) → Q (.inl none) τ) : WP mX13_markRest 0 [vR 14 0, vI r, vU] [] σ Q := by
  have hpe := hV.pe
  have hc := hV.cod
  have hc0 := cod_pos hV
  refine b_X13_markRest_0 ?_
  have key : ∀ n x : Nat, ((n + x : Nat) : Int) = cod V → ∀ τ, FR mkP σ τ → (∀ k : Nat, k < x → (τ 89 0 k ≠ 0 ↔ σ 83 0 k = r)) → WP mX13_markRest 2 [vR 14 0, vI r, vI (x : Int)] [] τ Q := by
    intro n
    induction n with
    | zero =>
      intro x hx τ hF hk
      have hT' : MT τ V := hT.fr hF (fun c j hc z => by unfold mkP at z; omega)
      have hR' : MRP τ V := hR.fr hF (fun c j hc z => by unfold mkP at z; omega)
      refine b_X13_markRest_2 ?_
      rw [hT'.all hV, hT'.pe]
      refine ⟨⟨by omega, by omega⟩, fun _ => d_findFar hV hT' hR' (fun υ u1 u2 u3 => b_X13_markRest_41 ?_), fun z => by omega⟩
      have cg : ∀ s, isSt V s → (TgM τ V s ↔ σ 83 0 s.toNat = r) := fun s hs => by
        have hb := hs.1
        unfold inC at hb
        have := hk s.toNat (by omega)
        exact ⟨fun z => this.mp z.2, fun z => ⟨hs, this.mpr z⟩⟩
      exact h υ (hF.tr (u1.wk (fun c i j z => by unfold farP at z; unfold mkP; omega))) ((u2 ⟨t, (cg t ht).mpr hr⟩).cg cg)
    | succ n ih =>
      intro x hx τ hF hk
      have hT' : MT τ V := hT.fr hF (fun c j hc z => by unfold mkP at z; omega)
      have e83 : τ 83 0 x = σ 83 0 x := hF _ _ _ (fun z => by unfold mkP at z; omega)
      refine b_X13_markRest_2 ?_
      rw [hT'.all hV, hT'.pe, Int.toNat_natCast, e83]
      refine ⟨⟨by omega, by omega⟩, fun z => by omega, fun _ => ⟨⟨by omega, by omega⟩, fun hne => ⟨⟨by omega, by omega⟩, by unfold in32; omega, ih (x + 1) (by omega) _ (hF.u ⟨by omega, rfl⟩) (fun k hk' => ?_)⟩, fun he => ⟨⟨by omega, by omega⟩, by unfold in32; omega, ih (x + 1) (by omega) _ (hF.u ⟨by omega, rfl⟩) (fun k hk' => ?_)⟩⟩⟩
      · by_cases e : k = x
        · rw [e, up_s]; exact ⟨fun z => absurd rfl z, fun z => absurd z hne⟩
        · rw [up_j e]; exact hk k (by omega)
      · by_cases e : k = x
        · rw [e, up_s]; exact ⟨fun _ => he, fun _ => by omega⟩
        · rw [up_j e]; exact hk k (by omega)
  exact key (cod V).toNat 0 (by omega) σ FR.rf (fun k hk => by omega)
end Far2
