/-! ===== findRests ===== -/
section Rests2
variable {σ : St} {Q : Res → St → Prop} {V : Vy} {s t : Int}
/-- RESTS found among the STATES below x -/
def RI (V : Vy) (τ : St) (x : Nat) : Prop := (0 ≤ τ 14 0 51 ∧ τ 14 0 51 ≤ x) ∧ (∀ s, isSt V s → ri τ s = -1 ∨ (0 ≤ ri τ s ∧ ri τ s < τ 14 0 51 ∧ Rst V s)) ∧ (∀ s, Rst V s → s < x → ri τ s ≠ -1) ∧ (∀ s t, isSt V s → isSt V t → ri τ s ≠ -1 → ri τ t ≠ -1 → (ri τ s = ri τ t ↔ Rch V s t)) ∧ (∀ s t, isSt V s → ri τ s ≠ -1 → Rch V s t → ri τ t ≠ -1) ∧ (∀ k : Nat, (k : Int) < τ 14 0 51 → isSt V (τ 85 0 k) ∧ ri τ (τ 85 0 k) = k ∧ τ 85 0 k < x ∧ ∀ s, isSt V s → ri τ s = k → τ 85 0 k ≤ s) ∧ (∀ k l : Nat, k < l → (l : Int) < τ 14 0 51 → τ 85 0 k < τ 85 0 l) ∧ (∀ k : Nat, (k : Int) < τ 14 0 51 → τ 86 0 k = (cnt (fun s => isSt V (s : Int) ∧ τ 83 0 s = k) 1024 : Nat)) ∧ (∀ s : Nat, (s : Int) < cod V → ¬ isSt V (s : Int) → τ 83 0 s = -1)
theorem d_findRests (hV : VOK V) (hT : MT σ V) (hR : MRP σ V) (h : ∀ τ, FR frP σ τ → MRS τ V → Q (.inl none) τ) : WP mX13_findRests 0 [vR 14 0, vU, vU] [] σ Q := by
  have hpe := hV.pe
  have hc := hV.cod
  have hc0 := cod_pos hV
  refine b_X13_findRests_0 (d_findOrder hV hT hR (fun τ1 f1 hO => ?_))
  have hT1 : MT τ1 V := hT.fr f1 (fun c j hc z => by unfold oP at z; omega)
  have hR1 : MRP τ1 V := hR.fr f1 (fun c j hc z => by unfold oP at z; omega)
  refine b_X13_findRests_4 (d_findParts hV hT1 hR1 hO (fun τ2 f2 hp1 hp2 => b_X13_findRests_8 ?_))
  have hT2 : MT τ2 V := hT1.fr f2 (fun c j hc z => by unfold ppP at z; omega)
  have hR2 : MRP τ2 V := hR1.fr f2 (fun c j hc z => by unfold ppP at z; omega)
  have f12 : FR frP σ τ2 := (f1.wk (fun c i j z => by unfold oP at z; unfold frP; omega)).tr (f2.wk (fun c i j z => by unfold ppP at z; unfold frP; omega))
  have hO2 : ORD V τ2 := by
    have g : ∀ c x, c = 14 ∨ c = 80 → τ2 c 0 x = τ1 c 0 x := fun c x hc => f2 _ _ _ (fun z => by unfold ppP at z; omega)
    obtain ⟨o1, o2, o3, o4, o5, o6⟩ := hO
    unfold ORD
    rw [g 14 50 (by omega)]
    simp only [g 80 _ (Or.inr rfl)]
    exact ⟨o1, o2, o3, o4, o5, o6⟩
  -- frame of the rest of the way
  let gP : Nat → Nat → Nat → Prop := fun c i j => i = 0 ∧ (c = 83 ∨ c = 85 ∨ c = 86 ∨ c = 89 ∨ (c = 14 ∧ j = 51))
  have hTf : ∀ τ, FR gP τ2 τ → MT τ V := fun τ hF => hT2.fr hF (fun c j hc z => by have : (0 : Nat) = 0 ∧ (c = 83 ∨ c = 85 ∨ c = 86 ∨ c = 89 ∨ (c = 14 ∧ j = 51)) := z; omega)
  have hRf : ∀ τ, FR gP τ2 τ → MRP τ V := fun τ hF => hR2.fr hF (fun c j hc z => by have : (0 : Nat) = 0 ∧ (c = 83 ∨ c = 85 ∨ c = 86 ∨ c = 89 ∨ (c = 14 ∧ j = 51)) := z; omega)
  have eo : ∀ τ, FR gP τ2 τ → ∀ c x, c = 79 ∨ c = 80 ∨ (c = 14 ∧ x = 50) → τ c 0 x = τ2 c 0 x := fun τ hF c x h1 => hF _ _ _ (fun z => by have : (0 : Nat) = 0 ∧ (c = 83 ∨ c = 85 ∨ c = 86 ∨ c = 89 ∨ (c = 14 ∧ x = 51)) := z; omega)
  have ept : ∀ τ, FR gP τ2 τ → ∀ s, pt τ s = pt τ2 s := fun τ hF s => eo τ hF 79 _ (by omega)
  have hptb : ∀ s, isSt V s → 0 ≤ pt τ2 s ∧ pt τ2 s < cod V ∧ pt τ2 s < 1024 := fun s hs => by
    have := (hp2 s hs).1.1
    unfold inC at this
    omega
  -- a REST: nobody of the part leaves it
  let lv : Int → Prop := fun s => ∃ t, E V s t ∧ pt τ2 t ≠ pt τ2 s
  have rst_iff : ∀ s, isSt V s → (Rst V s ↔ ¬ ∃ x, isSt V x ∧ pt τ2 x = pt τ2 s ∧ lv x) := by
    intro s hs
    constructor
    · rintro hr ⟨x, hx, hxs, t, ht, hne⟩
      have h1 := (hp1 x s hx hs).mp hxs
      have h2 := hr.2 t (h1.2.tr (Rch.one ht))
      exact hne ((hp1 t x (ht.st hV hx) hx).mpr ⟨h2.tr h1.2, Rch.one ht⟩)
    · intro hn
      refine ⟨hs, fun t ht => ?_⟩
      have : pt τ2 t = pt τ2 s ∧ isSt V t := ht (fun x => pt τ2 x = pt τ2 s ∧ isSt V x) ⟨rfl, hs⟩ (fun a b ha he => by
        refine ⟨?_, he.st hV ha.2⟩
        apply Classical.byContradiction
        intro z
        exact hn ⟨a, ha.2, ha.1, b, he, by rw [ha.1]; exact z⟩)
      exact ((hp1 t s this.2 hs).mp this.1).1
  -- D: the numbering
  have numb : ∀ n x : Nat, ((n + x : Nat) : Int) = cod V → ∀ τ, FR gP τ2 τ → (∀ s, isSt V s → (mk τ (pt τ2 s) ↔ ¬ Rst V s)) → RI V τ x → WP mX13_findRests 106 [vR 14 0, vI (x : Int), vU] [] τ Q := by
    intro n
    induction n with
    | zero =>
      intro x hx τ hF hmk hI
      obtain ⟨r0, r1, r2, r3, r4, r5, r6, r7, r8⟩ := hI
      refine b_X13_findRests_106 ?_
      rw [(hTf τ hF).all hV, (hTf τ hF).pe]
      have hH : HOME V (ri τ) (τ 14 0 51) := by
        have hall : ∀ s, Rst V s → ri τ s ≠ -1 := fun s hs => r2 s hs (by have := hs.1.1.2; omega)
        refine ⟨fun s hs => ?_, fun s t hs ht => r3 s t hs.1 ht.1 (hall s hs) (hall t ht), fun s hs k h0 h1 => ?_, fun k h0 h1 => ?_, r0.1⟩
        · rcases r1 s hs with z | z
          · exact Or.inl ⟨z, fun w => hall s w z⟩
          · exact Or.inr z
        · have hs2 := (r1 s hs.1).resolve_left (hall s hs)
          have q1 := r5 k.toNat (by omega)
          have q2 := r5 (ri τ s).toNat (by omega)
          have q3 := r6 k.toNat (ri τ s).toNat (by omega) (by omega)
          have q4 := q2.2.2.2 s hs.1 (by omega)
          have q5 := (r1 _ q1.1).resolve_left (by omega)
          exact ⟨τ 85 0 k.toNat, q5.2.2, by omega, by rw [q1.2.1]; omega⟩
        · have q1 := r5 k.toNat (by omega)
          have q5 := (r1 _ q1.1).resolve_left (by omega)
          exact ⟨τ 85 0 k.toNat, q5.2.2, by rw [q1.2.1]; omega⟩
      have hO3 : ORD V τ := by
        obtain ⟨o1, o2, o3, o4, o5, o6⟩ := hO2
        unfold ORD
        have e80 : ∀ y, τ 80 0 y = τ2 80 0 y := fun y => eo τ hF 80 y (by omega)
        rw [eo τ hF 14 50 (by omega)]
        simp only [e80]
        exact ⟨o1, o2, o3, o4, o5, o6⟩
      refine ⟨⟨by omega, by omega⟩, fun _ => d_findOnly hV (hTf τ hF) (hRf τ hF) hO3 hH (by omega) (fun υ u1 u2 u3 => b_X13_findRests_256 ?_), fun z => by omega⟩
      have uo : ∀ c y, c ≠ 84 → c ≠ 87 → υ c 0 y = τ c 0 y := fun c y h1 h2 => u1 _ _ _ (fun z => by unfold onP at z; omega)
      have er : ri υ = ri τ := by funext y; exact uo 83 _ (by omega) (by omega)
      refine h υ (f12.tr ((hF.wk (fun c i j z => by have : i = 0 ∧ (c = 83 ∨ c = 85 ∨ c = 86 ∨ c = 89 ∨ (c = 14 ∧ j = 51)) := z; unfold frP; omega)).tr (u1.wk (fun c i j z => by unfold onP at z; unfold frP; omega)))) ?_
      unfold MRS
      rw [er, uo 14 51 (by omega) (by omega)]
      simp only [uo 85 _ (show (85 : Nat) ≠ 84 by omega) (show (85 : Nat) ≠ 87 by omega), uo 86 _ (show (86 : Nat) ≠ 84 by omega) (show (86 : Nat) ≠ 87 by omega), uo 83 _ (show (83 : Nat) ≠ 84 by omega) (show (83 : Nat) ≠ 87 by omega)]
      exact ⟨hH, by omega, u2, fun k hk => ⟨(r5 k hk).1, (r5 k hk).2.1, (r5 k hk).2.2.2⟩, r7, u3, r8⟩
    | succ n ih =>
      intro x hx τ hF hmk hI
      have hI0 := hI
      obtain ⟨r0, r1, r2, r3, r4, r5, r6, r7, r8⟩ := hI
      refine b_X13_findRests_106 ?_
      have e79 : τ 79 0 x = pt τ2 (x : Int) := by have := ept τ hF (x : Int); unfold pt at this; rw [Int.toNat_natCast] at this; rw [this]; unfold pt; rw [Int.toNat_natCast]
      rw [(hTf τ hF).all hV, (hTf τ hF).pe, Int.toNat_natCast, (hRf τ hF).1 x (by omega), e79]
      have nxt : (Rst V (x : Int) → ri τ (x : Int) ≠ -1) → WP mX13_findRests 106 [vR 14 0, vI ((x : Int) + 1), vU] [] τ Q := fun hq => ih (x + 1) (by omega) τ hF hmk ⟨by omega, r1, fun s hs hlt => by
        by_cases e : s = x
        · rw [e] at hs ⊢; exact hq hs
        · exact r2 s hs (by push_cast at hlt; omega), r3, r4, fun k hk => ⟨(r5 k hk).1, (r5 k hk).2.1, by have := (r5 k hk).2.2.1; push_cast; omega, (r5 k hk).2.2.2⟩, r6, r7, r8⟩
      refine ⟨⟨by omega, by omega⟩, fun z => by omega, fun _ => ⟨⟨by omega, by omega⟩, fun hb => ⟨by unfold in32; omega, nxt (fun hr => absurd hr.1 (b2_eq hb))⟩, fun hb => ?_⟩⟩
      have hst := b2_ne hb
      have hpb := hptb _ hst
      refine ⟨⟨by omega, by omega⟩, ⟨by omega, by omega⟩, fun hm => ⟨by unfold in32; omega, nxt (fun hr => absurd hr ((hmk _ hst).mp hm))⟩, fun hm => ⟨⟨by omega, by omega⟩, fun hri => ?_, fun hri => ⟨by unfold in32; omega, nxt (fun _ => by unfold ri; rw [Int.toNat_natCast]; exact hri)⟩⟩⟩
      have hrx : Rst V (x : Int) := by
        apply Classical.byContradiction
        intro hn
        exact (hmk _ hst).mpr hn hm
      have hri' : ri τ (x : Int) = -1 := by unfold ri; rw [Int.toNat_natCast]; exact hri
      have hcl : ∀ t, isSt V t → (pt τ2 t = pt τ2 (x : Int) ↔ Rch V (x : Int) t) := fun t ht => ⟨fun e => ((hp1 t _ ht hst).mp e).2, fun e => (hp1 t _ ht hst).mpr ⟨hrx.2 t e, e⟩⟩
      have hun : ∀ t, isSt V t → Rch V (x : Int) t → ri τ t = -1 := fun t ht hr => by
        apply Classical.byContradiction
        intro z
        exact r4 t _ ht z (hrx.2 t hr) hri'
      have hge : ∀ t, isSt V t → Rch V (x : Int) t → (x : Int) ≤ t := fun t ht hr => by
        apply Classical.byContradiction
        intro z
        exact r2 t (hrx.cl hV hr) (by omega) (hun t ht hr)
      refine ⟨⟨by omega, by omega⟩, ⟨by omega, by omega⟩, ?_⟩
      -- the inner loop
      have inner : ∀ m q : Nat, ((m + q : Nat) : Int) = cod V → x ≤ q → ∀ υ, FR gP τ2 υ → (∀ c y, c = 89 ∨ (c = 14 ∧ y = 51) → υ c 0 y = τ c 0 y) → (∀ k : Nat, k ≠ (τ 14 0 51).toNat → υ 85 0 k = τ 85 0 k ∧ υ 86 0 k = τ 86 0 k) → υ 85 0 (τ 14 0 51).toNat = x → (∀ y : Nat, (isSt V (y : Int) ∧ Rch V (x : Int) (y : Int) ∧ y < q → υ 83 0 y = τ 14 0 51) ∧ (¬ (isSt V (y : Int) ∧ Rch V (x : Int) (y : Int) ∧ y < q) → υ 83 0 y = τ 83 0 y)) → υ 86 0 (τ 14 0 51).toNat = (cnt (fun y => isSt V (y : Int) ∧ Rch V (x : Int) (y : Int)) q : Nat) → WP mX13_findRests 172 [vR 14 0, vI (x : Int), vI (q : Int)] [] υ Q := by
        intro m
        induction m with
        | zero =>
          intro q hq hxq υ hF2 g1 g2 g3 g4 g5
          refine b_X13_findRests_172 ?_
          rw [(hTf υ hF2).all hV, (hTf υ hF2).pe, g1 14 51 (by omega)]
          refine ⟨⟨by omega, by omega⟩, fun _ => ⟨by unfold in32; omega, by unfold in32; omega, ?_⟩, fun z => by omega⟩
          have hFn : FR gP τ2 (up υ 14 0 51 (τ 14 0 51 + 1)) := hF2.u (c := 14) (i := 0) (j := 51) ⟨rfl, by omega⟩
          have co : ∀ c y, c ≠ 14 → (up υ 14 0 51 (τ 14 0 51 + 1)) c 0 y = υ c 0 y := fun c y hc => up_c hc
          have c51 : (up υ 14 0 51 (τ 14 0 51 + 1)) 14 0 51 = τ 14 0 51 + 1 := up_s _ _ _ _ _
          generalize up υ 14 0 51 (τ 14 0 51 + 1) = ω at *
          have inq : ∀ t, isSt V t → t.toNat < q := fun t ht => by have := ht.1; unfold inC at this; omega
          have cri : ∀ t, isSt V t → (Rch V (x : Int) t → ri ω t = τ 14 0 51) ∧ (¬ Rch V (x : Int) t → ri ω t = ri τ t) := fun t ht => by
            have hb := st_bd hV ht
            have := g4 t.toNat
            rw [show ((t.toNat : Nat) : Int) = t by omega] at this
            unfold ri
            rw [co 83 _ (by omega)]
            exact ⟨fun z => this.1 ⟨ht, z, inq t ht⟩, fun z => this.2 (fun w => z w.2.1)⟩
          have rne : ∀ t, isSt V t → ri τ t ≠ -1 → ¬ Rch V (x : Int) t := fun t ht hn z => hn (hun t ht z)
          refine ih (x + 1) (by omega) ω hFn (fun s hs => by unfold mk; rw [co 89 _ (by omega), g1 89 _ (by omega)]; exact hmk s hs) ⟨by rw [c51]; push_cast; omega, fun s hs => ?_, fun s hs hlt => ?_, fun s t hs ht h1 h2 => ?_, fun s t hs h1 hr => ?_, fun k hk => ?_, fun k l hkl hl => ?_, fun k hk => ?_, fun y hy hn => ?_⟩
          · rw [c51]
            by_cases e : Rch V (x : Int) s
            · rw [(cri s hs).1 e]; exact Or.inr ⟨by omega, by omega, hrx.cl hV e⟩
            · rw [(cri s hs).2 e]
              rcases r1 s hs with z | z
              · exact Or.inl z
              · exact Or.inr ⟨z.1, by omega, z.2.2⟩
          · by_cases e : Rch V (x : Int) s
            · rw [(cri s hs.1).1 e]; omega
            · rw [(cri s hs.1).2 e]
              have hne : s ≠ x := by rintro rfl; exact e Rch.rf
              exact r2 s hs (by push_cast at hlt; omega)
          · by_cases es : Rch V (x : Int) s
            · rw [(cri s hs).1 es]
              by_cases et : Rch V (x : Int) t
              · rw [(cri t ht).1 et]; exact ⟨fun _ => (hrx.2 s es).tr et, fun _ => rfl⟩
              · rw [(cri t ht).2 et] at h2 ⊢
                have := (r1 t ht).resolve_left h2
                exact ⟨fun z => by omega, fun z => absurd (es.tr z) et⟩
            · rw [(cri s hs).2 es] at h1 ⊢
              have hs2 := (r1 s hs).resolve_left h1
              by_cases et : Rch V (x : Int) t
              · rw [(cri t ht).1 et]
                exact ⟨fun z => by omega, fun z => absurd (et.tr (hs2.2.2.2 t z)) es⟩
              · rw [(cri t ht).2 et] at h2 ⊢; exact r3 s t hs ht h1 h2
          · have hts := hr.st hV hs
            by_cases et : Rch V (x : Int) t
            · rw [(cri t hts).1 et]; omega
            · have es : ¬ Rch V (x : Int) s := fun z => et (z.tr hr)
              rw [(cri s hs).2 es] at h1
              rw [(cri t hts).2 et]; exact r4 s t hs h1 hr
          · rw [c51] at hk
            rw [co 85 _ (by omega)]
            by_cases e : k = (τ 14 0 51).toNat
            · rw [e, g3]
              refine ⟨hst, by rw [(cri _ hst).1 Rch.rf]; omega, by push_cast; omega, fun s hs hk2 => ?_⟩
              by_cases es : Rch V (x : Int) s
              · exact hge s hs es
              · rw [(cri s hs).2 es] at hk2
                have := r1 s hs
                omega
            · rw [(g2 k e).1]
              have hk3 := r5 k (by omega)
              have hnr : ¬ Rch V (x : Int) (τ 85 0 k) := rne _ hk3.1 (by omega)
              refine ⟨hk3.1, by rw [(cri _ hk3.1).2 hnr]; exact hk3.2.1, by have := hk3.2.2.1; push_cast; omega, fun s hs hk2 => ?_⟩
              by_cases es : Rch V (x : Int) s
              · rw [(cri s hs).1 es] at hk2; omega
              · rw [(cri s hs).2 es] at hk2; exact hk3.2.2.2 s hs hk2
          · rw [c51] at hl
            rw [co 85 _ (by omega), co 85 _ (by omega)]
            by_cases e : l = (τ 14 0 51).toNat
            · rw [e, g3, (g2 k (by omega)).1]; exact (r5 k (by omega)).2.2.1
            · rw [(g2 k (by omega)).1, (g2 l e).1]; exact r6 k l hkl (by omega)
          · rw [c51] at hk
            rw [co 86 _ (by omega)]
            have e83 : ∀ y, ω 83 0 y = υ 83 0 y := fun y => co 83 y (by omega)
            by_cases e : k = (τ 14 0 51).toNat
            · rw [e, g5, cnt_ext (P := fun y => isSt V (y : Int) ∧ Rch V (x : Int) (y : Int)) (n := q) (m := 1024) (by omega) (fun y h1 h2 z => by have := z.1.1.2; omega) |>.symm]
              rw [cnt_eq (P := fun y => isSt V (y : Int) ∧ Rch V (x : Int) (y : Int)) (Q := fun s => isSt V (s : Int) ∧ ω 83 0 s = (((τ 14 0 51).toNat : Nat) : Int)) (fun y _ => ⟨fun z => ⟨z.1, by
                rw [e83, (g4 y).1 ⟨z.1, z.2, by have := z.1.1.2; omega⟩]; omega⟩, fun z => ⟨z.1, by
                apply Classical.byContradiction
                intro hn
                have h1 := z.2
                rw [e83, (g4 y).2 (fun w => hn w.2.1)] at h1
                have h2 := r1 _ z.1
                unfold ri at h2
                rw [Int.toNat_natCast] at h2
                omega⟩⟩)]
            · rw [(g2 k e).2, r7 k (by omega)]
              rw [cnt_eq (P := fun s => isSt V (s : Int) ∧ τ 83 0 s = k) (Q := fun s => isSt V (s : Int) ∧ ω 83 0 s = k) (fun y _ => ⟨fun z => ⟨z.1, by
                rw [e83, (g4 y).2 (fun w => by
                  have := hun _ w.1 w.2.1
                  unfold ri at this
                  rw [Int.toNat_natCast] at this
                  have := z.2
                  omega)]
                exact z.2⟩, fun z => ⟨z.1, by
                have h1 := z.2
                by_cases hr : Rch V (x : Int) (y : Int)
                · rw [e83, (g4 y).1 ⟨z.1, hr, by have := z.1.1.2; omega⟩] at h1; omega
                · rw [e83, (g4 y).2 (fun w => hr w.2.1)] at h1; exact h1⟩⟩)]
          · rw [co 83 _ (by omega), (g4 y).2 (fun w => hn w.1)]; exact r8 y hy hn
        | succ m ihm =>
          intro q hq hxq υ hF2 g1 g2 g3 g4 g5
          refine b_X13_findRests_172 ?_
          have e79q : υ 79 0 q = pt τ2 (q : Int) := by have := ept υ hF2 (q : Int); unfold pt at this; rw [Int.toNat_natCast] at this; rw [this]; unfold pt; rw [Int.toNat_natCast]
          have e79x : υ 79 0 x = pt τ2 (x : Int) := by have := ept υ hF2 (x : Int); unfold pt at this; rw [Int.toNat_natCast] at this; rw [this]; unfold pt; rw [Int.toNat_natCast]
          have e51 := g1 14 51 (by omega)
          rw [(hTf υ hF2).all hV, (hTf υ hF2).pe, Int.toNat_natCast, Int.toNat_natCast, (hRf υ hF2).1 q (by omega), e79q, e79x, e51]
          have skip : ¬ (isSt V (q : Int) ∧ Rch V (x : Int) (q : Int)) → WP mX13_findRests 172 [vR 14 0, vI (x : Int), vI ((q : Int) + 1)] [] υ Q := fun hn => ihm (q + 1) (by omega) (by omega) υ hF2 g1 g2 g3 (fun y => ⟨fun z => (g4 y).1 ⟨z.1, z.2.1, by
            apply Classical.byContradiction
            intro w
            rw [show y = q by omega] at z
            exact hn ⟨z.1, z.2.1⟩⟩, fun z => (g4 y).2 (fun w => z ⟨w.1, w.2.1, by omega⟩)⟩) (by rw [g5, cnt_f (P := fun y => isSt V (y : Int) ∧ Rch V (x : Int) (y : Int)) (n := q) hn])
          have hcb := cnt_bd (fun y => isSt V (y : Int) ∧ Rch V (x : Int) (y : Int)) q
          refine ⟨⟨by omega, by omega⟩, fun z => by omega, fun _ => ⟨⟨by omega, by omega⟩, fun hb => ⟨by unfold in32; omega, skip (fun z => b2_eq hb z.1)⟩, fun hb => ⟨⟨by omega, by omega⟩, ⟨by omega, by omega⟩, fun he => ?_, fun hne => ⟨by unfold in32; omega, skip (fun z => hne ((hcl _ z.1).mpr z.2))⟩⟩⟩⟩
          have hqs := b2_ne hb
          have hqr := (hcl _ hqs).mp he
          refine ⟨⟨by omega, by omega⟩, ⟨by omega, by omega⟩, by unfold in32; omega, ⟨by omega, by omega⟩, by unfold in32; omega, ?_⟩
          have hFn : FR gP τ2 (up (up υ 83 0 q (τ 14 0 51)) 86 0 (τ 14 0 51).toNat (υ 86 0 (τ 14 0 51).toNat + 1)) := (hF2.u (c := 83) (i := 0) (j := q) ⟨rfl, by omega⟩).u (c := 86) (i := 0) ⟨rfl, by omega⟩
          refine ihm (q + 1) (by omega) (by omega) _ hFn (fun c y hc => by rw [up_c (by omega), up_c (by omega)]; exact g1 c y hc) (fun k hk => by rw [up_c (by omega), up_c (by omega), up_j hk, up_c (by omega)]; exact g2 k hk) (by rw [up_c (by omega), up_c (by omega)]; exact g3) (fun y => ?_) ?_
          · rw [up_c (by omega)]
            by_cases e : y = q
            · rw [e, up_s]; exact ⟨fun _ => rfl, fun z => absurd ⟨hqs, hqr, by omega⟩ z⟩
            · rw [up_j e]; exact ⟨fun z => (g4 y).1 ⟨z.1, z.2.1, by omega⟩, fun z => (g4 y).2 (fun w => z ⟨w.1, w.2.1, by omega⟩)⟩
          · rw [up_s, g5, cnt_t (P := fun y => isSt V (y : Int) ∧ Rch V (x : Int) (y : Int)) (n := q) ⟨hqs, hqr⟩]
            push_cast
            rfl
      have hFn : FR gP τ2 (up (up τ 85 0 (τ 14 0 51).toNat (x : Int)) 86 0 (τ 14 0 51).toNat 0) := (hF.u (c := 85) (i := 0) ⟨rfl, by omega⟩).u (c := 86) (i := 0) ⟨rfl, by omega⟩
      refine inner n.succ x (by omega) (Nat.le_refl _) _ hFn (fun c y hc => by rw [up_c (by omega), up_c (by omega)]) (fun k hk => by rw [up_c (by omega), up_j hk, up_j hk, up_c (by omega)]; exact ⟨rfl, rfl⟩) (by rw [up_c (by omega), up_s]) (fun y => ?_) ?_
      · rw [up_c (by omega), up_c (by omega)]
        refine ⟨fun z => ?_, fun _ => rfl⟩
        have := hge _ z.1 z.2.1
        omega
      · rw [up_s, cnt_0 (fun y hy z => by have := hge _ z.1 z.2; omega)]
        rfl
  -- C: restIn is emptied
  have empt : ∀ n x : Nat, ((n + x : Nat) : Int) = cod V → ∀ τ, FR gP τ2 τ → (∀ s, isSt V s → (mk τ (pt τ2 s) ↔ ¬ Rst V s)) → τ 14 0 51 = 0 → (∀ y : Nat, y < x → τ 83 0 y = -1) → WP mX13_findRests 83 [vR 14 0, vI (x : Int), vU] [] τ Q := by
    intro n
    induction n with
    | zero =>
      intro x hx τ hF hmk h0 hy
      refine b_X13_findRests_83 ?_
      rw [(hTf τ hF).all hV, (hTf τ hF).pe]
      have hno : ∀ s, isSt V s → ri τ s = -1 := fun s hs => hy s.toNat (by have := hs.1; unfold inC at this; omega)
      refine ⟨⟨by omega, by omega⟩, fun _ => numb (cod V).toNat 0 (by omega) τ hF hmk ⟨by omega, fun s hs => Or.inl (hno s hs), fun s hs hlt => by have := hs.1.1.1; omega, fun s t hs _ h1 => absurd (hno s hs) h1, fun s t hs h1 => absurd (hno s hs) h1, fun k hk => by omega, fun k l _ hl => by omega, fun k hk => by omega, fun y hy' _ => hy y (by omega)⟩, fun z => by omega⟩
    | succ n ih =>
      intro x hx τ hF hmk h0 hy
      refine b_X13_findRests_83 ?_
      rw [(hTf τ hF).all hV, (hTf τ hF).pe, Int.toNat_natCast]
      refine ⟨⟨by omega, by omega⟩, fun z => by omega, fun _ => ⟨⟨by omega, by omega⟩, by unfold in32; omega, ih (x + 1) (by omega) _ (hF.u (c := 83) (i := 0) ⟨rfl, by omega⟩) (fun s hs => by unfold mk; rw [up_c (by omega)]; exact hmk s hs) (by rw [up_c (by omega)]; exact h0) (fun y hy' => ?_)⟩⟩
      by_cases e : y = x
      · rw [e, up_s]
      · rw [up_j e]; exact hy y (by omega)
  -- B: parts that are left are marked
  have mark : ∀ n x : Nat, ((n + x : Nat) : Int) = cod V → ∀ τ, FR gP τ2 τ → (∀ y : Nat, (y : Int) < cod V → (τ 89 0 y ≠ 0 ↔ ∃ s, isSt V s ∧ s < x ∧ lv s ∧ pt τ2 s = y)) → WP mX13_findRests 33 [vR 14 0, vI (x : Int), vU] [] τ Q := by
    intro n
    induction n with
    | zero =>
      intro x hx τ hF hmk
      refine b_X13_findRests_33 ?_
      rw [(hTf τ hF).all hV, (hTf τ hF).pe]
      refine ⟨⟨by omega, by omega⟩, fun _ => empt (cod V).toNat 0 (by omega) _ (hF.u (c := 14) (i := 0) (j := 51) ⟨rfl, by omega⟩) (fun s hs => ?_) (by rw [up_s]) (fun y hy => by omega), fun z => by omega⟩
      have hpb := hptb s hs
      have := hmk (pt τ2 s).toNat (by omega)
      unfold mk
      rw [up_c (by omega), this, rst_iff s hs, Classical.not_not]
      constructor
      · rintro ⟨x', q1, q2, q3, q4⟩; exact ⟨x', q1, by omega, q3⟩
      · rintro ⟨x', q1, q2, q3⟩; exact ⟨x', q1, by have := q1.1.2; omega, q3, by omega⟩
    | succ n ih =>
      intro x hx τ hF hmk
      refine b_X13_findRests_33 ?_
      rw [(hTf τ hF).all hV, (hTf τ hF).pe, Int.toNat_natCast, (hRf τ hF).1 x (by omega)]
      have skip : ¬ (isSt V (x : Int) ∧ lv (x : Int)) → in32 ((x : Int) + 1) ∧ WP mX13_findRests 33 [vR 14 0, vI ((x : Int) + 1), vU] [] τ Q := fun hn => ⟨by unfold in32; omega, ih (x + 1) (by omega) τ hF (fun y hy => (hmk y hy).trans ⟨fun ⟨s, q1, q2, q3, q4⟩ => ⟨s, q1, by push_cast; omega, q3, q4⟩, fun ⟨s, q1, q2, q3, q4⟩ => ⟨s, q1, by
        apply Classical.byContradiction
        intro w
        push_cast at q2
        rw [show s = x by omega] at q1 q3
        exact hn ⟨q1, q3⟩, q3, q4⟩⟩)⟩
      refine ⟨⟨by omega, by omega⟩, fun z => by omega, fun _ => ⟨⟨by omega, by omega⟩, fun hb => skip (fun z => b2_eq hb z.1), fun hb => d_leaves hV (hTf τ hF) (hRf τ hF) (b2_ne hb) ?_⟩⟩
      have hst := b2_ne hb
      have hpb := hptb _ hst
      show WP mX13_findRests 55 [vR 14 0, vI (x : Int), vU] [vI (b2 (∃ t, E V (x : Int) t ∧ pt τ t ≠ pt τ (x : Int)))] τ Q
      have elv : (∃ t, E V (x : Int) t ∧ pt τ t ≠ pt τ (x : Int)) ↔ lv (x : Int) := by simp only [ept τ hF]; exact Iff.rfl
      rw [b2_congr elv]
      refine b_X13_findRests_55 ⟨fun h0 => skip (fun z => b2_eq h0 z.2), fun h1 => ?_⟩
      have hl := b2_ne h1
      have e79 : τ 79 0 x = pt τ2 (x : Int) := by have := ept τ hF (x : Int); unfold pt at this; rw [Int.toNat_natCast] at this; rw [this]; unfold pt; rw [Int.toNat_natCast]
      rw [Int.toNat_natCast, e79]
      refine ⟨⟨by omega, by omega⟩, ⟨by omega, by omega⟩, by unfold in32; omega, ih (x + 1) (by omega) _ (hF.u (c := 89) (i := 0) ⟨rfl, by omega⟩) (fun y hy => ?_)⟩
      by_cases e : y = (pt τ2 (x : Int)).toNat
      · rw [e, up_s]
        exact ⟨fun _ => ⟨(x : Int), hst, by push_cast; omega, hl, by omega⟩, fun _ => by omega⟩
      · rw [up_j e, hmk y hy]
        constructor
        · rintro ⟨s, q1, q2, q3, q4⟩; exact ⟨s, q1, by push_cast; omega, q3, q4⟩
        · rintro ⟨s, q1, q2, q3, q4⟩
          refine ⟨s, q1, ?_, q3, q4⟩
          apply Classical.byContradiction
          intro w
          push_cast at q2
          rw [show s = x by omega] at q4
          omega
  -- A
  have zero : ∀ n x : Nat, ((n + x : Nat) : Int) = cod V → ∀ τ, FR gP τ2 τ → (∀ y : Nat, y < x → τ 89 0 y = 0) → WP mX13_findRests 10 [vR 14 0, vI (x : Int), vU] [] τ Q := by
    intro n
    induction n with
    | zero =>
      intro x hx τ hF hy
      refine b_X13_findRests_10 ?_
      rw [(hTf τ hF).all hV, (hTf τ hF).pe]
      refine ⟨⟨by omega, by omega⟩, fun _ => mark (cod V).toNat 0 (by omega) τ hF (fun y hy' => ⟨fun z => absurd (hy y (by omega)) z, fun ⟨s, q1, q2, _⟩ => by have := q1.1.1; omega⟩), fun z => by omega⟩
    | succ n ih =>
      intro x hx τ hF hy
      refine b_X13_findRests_10 ?_
      rw [(hTf τ hF).all hV, (hTf τ hF).pe, Int.toNat_natCast]
      refine ⟨⟨by omega, by omega⟩, fun z => by omega, fun _ => ⟨⟨by omega, by omega⟩, by unfold in32; omega, ih (x + 1) (by omega) _ (hF.u (c := 89) (i := 0) ⟨rfl, by omega⟩) (fun y hy' => ?_)⟩⟩
      by_cases e : y = x
      · rw [e, up_s]
      · rw [up_j e]; exact hy y (by omega)
  exact zero (cod V).toNat 0 (by omega) τ2 FR.rf (fun y hy => by omega)
end Rests2
