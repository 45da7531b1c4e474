/-! ===== the model's findOnly, findRests ===== -/
def ri (σ : St) (s : Int) : Int := σ 83 0 s.toNat
def on (σ : St) (s : Int) : Int := σ 84 0 s.toNat
def MRS (σ : St) (V : Vy) : Prop := HOME V (ri σ) (σ 14 0 51) ∧ σ 14 0 51 ≤ 1024 ∧ (∀ s, isSt V s → ∀ k, 0 ≤ k → (on σ s = k ↔ BAS V (ri σ) k s)) ∧ (∀ k : Nat, (k : Int) < σ 14 0 51 → isSt V (σ 85 0 k) ∧ ri σ (σ 85 0 k) = k ∧ ∀ s, isSt V s → ri σ s = k → σ 85 0 k ≤ s) ∧ (∀ k : Nat, (k : Int) < σ 14 0 51 → σ 86 0 k = (cnt (fun s => isSt V (s : Int) ∧ σ 83 0 s = k) 1024 : Nat)) ∧ (∀ k : Nat, (k : Int) < σ 14 0 51 → σ 87 0 k = (cnt (fun s => isSt V (s : Int) ∧ σ 84 0 s = k) 1024 : Nat)) ∧ (∀ s : Nat, (s : Int) < cod V → ¬ isSt V (s : Int) → σ 83 0 s = -1)
def onP (c i _j : Nat) : Prop := i = 0 ∧ (c = 84 ∨ c = 87)
def frP (c i j : Nat) : Prop := i = 0 ∧ ((79 ≤ c ∧ c ≤ 87) ∨ c = 89 ∨ (c = 14 ∧ (j = 50 ∨ j = 51)))
def ow (o : Int) : Int := if o = -1 then 2 else if o = -2 then 0 else 1
section Rests
variable {σ : St} {Q : Res → St → Prop} {V : Vy} {s t : Int}
/-- what may stand for s -/
def OK1 (V : Vy) (f : Int → Int) (n : Int) (s o : Int) : Prop := (Rst V s → o = f s) ∧ (o = -1 ∨ (0 ≤ o ∧ o < n ∧ ∃ r, Rst V r ∧ Rch V s r ∧ f r = o) ∨ (o = -2 ∧ ∃ r r', Rst V r ∧ Rst V r' ∧ Rch V s r ∧ Rch V s r' ∧ f r ≠ f r'))
theorem OK1.dom {f : Int → Int} {n s o : Int} (h : OK1 V f n s o) : o = -1 ∨ o = -2 ∨ (0 ≤ o ∧ o < n) := by
  rcases h.2 with z | z | z
  · exact Or.inl z
  · exact Or.inr (Or.inr ⟨z.1, z.2.1⟩)
  · exact Or.inr (Or.inl z.1)
theorem d_findOnly (hV : VOK V) (hT : MT σ V) (hR : MRP σ V) (hO : ORD V σ) (hH : HOME V (ri σ) (σ 14 0 51)) (hn : σ 14 0 51 ≤ 1024) (h : ∀ τ, FR onP σ τ → (∀ s, isSt V s → ∀ k, 0 ≤ k → (on τ s = k ↔ BAS V (ri σ) k s)) → (∀ k : Nat, (k : Int) < σ 14 0 51 → τ 87 0 k = (cnt (fun s => isSt V (s : Int) ∧ τ 84 0 s = k) 1024 : Nat)) → Q (.inl none) τ) : WP mX13_findOnly 0 [vR 14 0, vU, vU, vU, vU, vU, vU] [] σ Q := by
  have hpe := hV.pe
  have hha := hV.ha
  have hc := hV.cod
  have hc0 := cod_pos hV
  have hph := ph_bd hV
  have hn0 := hH.2.2.2.2
  have hTf : ∀ τ, FR onP σ τ → MT τ V := fun τ hF => hT.fr hF (fun c j hc z => by unfold onP at z; omega)
  have hRf : ∀ τ, FR onP σ τ → MRP τ V := fun τ hF => hR.fr hF (fun c j hc z => by unfold onP at z; omega)
  have eo : ∀ τ, FR onP σ τ → ∀ c x, c ≠ 84 → c ≠ 87 → τ c 0 x = σ c 0 x := fun τ hF c x h1 h2 => hF _ _ _ (fun z => by unfold onP at z; omega)
  obtain ⟨o1, o2, o3, o4, o5, -⟩ := hO
  let S : St → Int := fun τ => sm (fun a => ow (on τ (σ 80 0 a))) (σ 14 0 50).toNat
  have ow_bd : ∀ o, 0 ≤ ow o ∧ ow o ≤ 2 := fun o => by unfold ow; split <;> (try split) <;> omega
  have hrst : ∀ s, isSt V s → (ri σ s ≠ -1 ↔ Rst V s) := fun s hs => by
    rcases hH.1 s hs with z | z
    · exact ⟨fun w => absurd z.1 w, fun w => absurd w z.2⟩
    · exact ⟨fun _ => z.2.2, fun _ => by omega⟩
  -- the counting at the end
  have cnt2 : ∀ n x : Nat, ((n + x : Nat) : Int) = cod V → ∀ τ, FR onP σ τ → (∀ s, isSt V s → OK1 V (ri σ) (σ 14 0 51) s (on τ s)) → (∀ s, isSt V s → ∀ k, 0 ≤ k → (on τ s = k ↔ BAS V (ri σ) k s)) → (∀ k : Nat, (k : Int) < σ 14 0 51 → τ 87 0 k = (cnt (fun s => isSt V (s : Int) ∧ τ 84 0 s = k) x : Nat)) → WP mX13_findOnly 235 [vR 14 0, vU, vI (x : Int), vU, vU, vU, vU] [] τ Q := by
    intro n
    induction n with
    | zero =>
      intro x hx τ hF hok hb hk
      refine b_X13_findOnly_235 ?_
      rw [(hTf τ hF).all hV, (hTf τ hF).pe]
      refine ⟨⟨by omega, by omega⟩, fun _ => h τ hF hb (fun k hk' => ?_), fun z => by omega⟩
      rw [hk k hk', cnt_ext (n := x) (m := 1024) (P := fun s => isSt V (s : Int) ∧ τ 84 0 s = k) (by omega) (fun y h1 h2 z => by have := z.1.1.2; omega)]
    | succ n ih =>
      intro x hx τ hF hok hb hk
      refine b_X13_findOnly_235 ?_
      rw [(hTf τ hF).all hV, (hTf τ hF).pe, Int.toNat_natCast, (hRf τ hF).1 x (by omega)]
      refine ⟨⟨by omega, by omega⟩, fun z => by omega, fun _ => ⟨⟨by omega, by omega⟩, fun hs => ⟨by unfold in32; omega, ih (x + 1) (by omega) τ hF hok hb (fun k hk' => by rw [hk k hk', cnt_f (P := fun s => isSt V (s : Int) ∧ τ 84 0 s = k) (n := x) (fun z => b2_eq hs z.1)])⟩, fun hs => ⟨⟨by omega, by omega⟩, fun hlt => ⟨by unfold in32; omega, ih (x + 1) (by omega) τ hF hok hb (fun k hk' => by rw [hk k hk', cnt_f (P := fun s => isSt V (s : Int) ∧ τ 84 0 s = k) (n := x) (fun z => by have := z.2; omega)])⟩, fun hge => ?_⟩⟩⟩
      have hst := b2_ne hs
      have hd := (hok _ hst).dom
      unfold on at hd
      rw [Int.toNat_natCast] at hd
      have hd' : τ 84 0 x < σ 14 0 51 := by omega
      have hkx := hk (τ 84 0 x).toNat (by omega)
      have hcb := cnt_bd (fun s => isSt V (s : Int) ∧ τ 84 0 s = (((τ 84 0 x).toNat : Nat) : Int)) x
      refine ⟨⟨by omega, by omega⟩, ⟨by omega, by omega⟩, by unfold in32; omega, ⟨by omega, by omega⟩, by unfold in32; omega, ih (x + 1) (by omega) _ (hF.u ⟨rfl, by omega⟩) (fun s hs => by unfold on; rw [up_c (by omega)]; exact hok s hs) (fun s hs k h0 => by unfold on; rw [up_c (by omega)]; exact hb s hs k h0) (fun k hk' => ?_)⟩
      have e84 : ∀ y, (up τ 87 0 (τ 84 0 x).toNat (τ 87 0 (τ 84 0 x).toNat + 1)) 84 0 y = τ 84 0 y := fun y => up_c (by omega)
      simp only [e84]
      by_cases e : k = (τ 84 0 x).toNat
      · rw [e, up_s, hkx, cnt_t (P := fun s => isSt V (s : Int) ∧ τ 84 0 s = (((τ 84 0 x).toNat : Nat) : Int)) (n := x) ⟨hst, by omega⟩]
        push_cast
        rfl
      · rw [up_j e, hk k hk', cnt_f (P := fun s => isSt V (s : Int) ∧ τ 84 0 s = k) (n := x) (fun z => e (by have := z.2; omega))]
  have cnt1 : ∀ n x : Nat, ((n + x : Nat) : Int) = σ 14 0 51 → ∀ τ, FR onP σ τ → (∀ s, isSt V s → OK1 V (ri σ) (σ 14 0 51) s (on τ s)) → (∀ s, isSt V s → ∀ k, 0 ≤ k → (on τ s = k ↔ BAS V (ri σ) k s)) → (∀ k : Nat, k < x → τ 87 0 k = 0) → WP mX13_findOnly 212 [vR 14 0, vU, vI (x : Int), vU, vU, vU, vU] [] τ Q := by
    intro n
    induction n with
    | zero =>
      intro x hx τ hF hok hb hk
      have e51 := eo τ hF 14 51 (by omega) (by omega)
      refine b_X13_findOnly_212 ⟨fun _ => cnt2 (cod V).toNat 0 (by omega) τ hF hok hb (fun k hk' => by rw [hk k (by omega)]; rfl), fun z => by omega⟩
    | succ n ih =>
      intro x hx τ hF hok hb hk
      have e51 := eo τ hF 14 51 (by omega) (by omega)
      refine b_X13_findOnly_212 ⟨fun z => by omega, fun _ => ⟨⟨by omega, by omega⟩, by unfold in32; omega, ih (x + 1) (by omega) _ (hF.u ⟨rfl, by omega⟩) (fun s hs => by unfold on; rw [up_c (by omega)]; exact hok s hs) (fun s hs k h0 => by unfold on; rw [up_c (by omega)]; exact hb s hs k h0) (fun k hk' => ?_)⟩⟩
      rw [Int.toNat_natCast]
      by_cases e : k = x
      · rw [e, up_s]
      · rw [up_j e]; exact hk k (by omega)
  -- the passes
  have loop : ∀ (N : Nat) (τ : St) (mm : Int), S τ < N → FR onP σ τ → (mm = 0 ∨ mm = 1) → (∀ s, isSt V s → OK1 V (ri σ) (σ 14 0 51) s (on τ s)) → (mm = 0 → ∀ s, isSt V s → ¬ Rst V s → on τ s = -2 ∨ ∀ t, E V s t → on τ t = -1 ∨ on τ t = on τ s) → WP mX13_findOnly 30 [vR 14 0, vI mm, vU, vU, vU, vU, vU] [] τ Q := by
    intro N
    induction N with
    | zero =>
      intro τ mm hN
      have : 0 ≤ S τ := sm_nn (fun k _ => (ow_bd _).1)
      omega
    | succ N ih =>
      intro τ mm hN hF hm hok hrx
      refine b_X13_findOnly_30 ⟨fun h0 => ?_, fun h0 => ?_⟩
      · -- the end: what only means
        have hrx := hrx h0
        have key : ∀ s r, isSt V s → Rst V r → Rch V s r → on τ s = ri σ r ∨ on τ s = -2 := by
          intro s r hs hr hsr
          have hrr := (hH.1 r hr.1).resolve_left (fun z => z.2 hr)
          have : isSt V s → on τ s = ri σ r ∨ on τ s = -2 := hsr.back (fun x => isSt V x → on τ x = ri σ r ∨ on τ x = -2) (fun _ => Or.inl ((hok r hr.1).1 hr)) (fun a b he hb ha => by
            have hbs := he.st hV ha
            by_cases har : Rst V a
            · have e1 := (hok a ha).1 har
              have e2 := (hok b hbs).1 (har.cl hV (Rch.one he))
              have e3 := (hH.2.1 a b har (har.cl hV (Rch.one he))).mpr (Rch.one he)
              rcases hb hbs with z | z
              · left; rw [e1, e3, ← e2]; exact z
              · have := (hH.1 b hbs).resolve_left (fun w => w.2 (har.cl hV (Rch.one he)))
                omega
            · rcases hrx a ha har with z | z
              · exact Or.inr z
              · rcases hb hbs with w | w
                · rcases z b he with y | y
                  · omega
                  · left; rw [← y]; exact w
                · rcases z b he with y | y
                  · omega
                  · right; rw [← y]; exact w)
          exact this hs
        have hb : ∀ s, isSt V s → ∀ k, 0 ≤ k → (on τ s = k ↔ BAS V (ri σ) k s) := by
          intro s hs k hk
          constructor
          · intro e r hr hsr
            rcases key s r hs hr hsr with z | z
            · omega
            · omega
          · intro hbas
            obtain ⟨r, r1, r2⟩ := rch_rest hV hs
            have e := hbas r r2 r1
            rcases key s r hs r2 r1 with z | z
            · omega
            · rcases (hok s hs).2 with y | y | ⟨-, x, x', x1, x2, x3, x4, x5⟩
              · omega
              · omega
              · exact absurd ((hbas x x1 x3).trans (hbas x' x2 x4).symm) x5
        exact cnt1 (σ 14 0 51).toNat 0 (by omega) τ hF hok hb (fun k hk => by omega)
      · -- a pass
        have pass : ∀ (m a : Nat) (υ : St) (mm : Int), ((m + a : Nat) : Int) = σ 14 0 50 → FR onP σ υ → (mm = 0 ∨ mm = 1) → (∀ s, isSt V s → OK1 V (ri σ) (σ 14 0 51) s (on υ s)) → S υ ≤ S τ → (mm = 1 → S υ < S τ) → (mm = 0 → (∀ s, on υ s = on τ s) ∧ ∀ b : Nat, b < a → ¬ Rst V (σ 80 0 b) → on υ (σ 80 0 b) = -2 ∨ ∀ t, E V (σ 80 0 b) t → on υ t = -1 ∨ on υ t = on υ (σ 80 0 b)) → WP mX13_findOnly 38 [vR 14 0, vI mm, vI (a : Int), vU, vU, vU, vU] [] υ Q := by
          intro m
          induction m with
          | zero =>
            intro a υ mm hqa hF2 hm2 hok2 hS1 hS2 hz
            have e50 := eo υ hF2 14 50 (by omega) (by omega)
            refine b_X13_findOnly_38 ⟨fun _ => ?_, fun z => by omega⟩
            by_cases e : mm = 0
            · -- no change: once more 30, which ends
              have hall : ∀ s, isSt V s → ¬ Rst V s → on υ s = -2 ∨ ∀ t, E V s t → on υ t = -1 ∨ on υ t = on υ s := fun s hs hnr => by
                obtain ⟨b, b1, b2⟩ := o4 s hs
                have := (hz e).2 b (by omega)
                rw [b2] at this
                exact this hnr
              have hk := (hz e).1
              -- the end again
              have key : ∀ s r, isSt V s → Rst V r → Rch V s r → on υ s = ri σ r ∨ on υ s = -2 := by
                intro s r hs hr hsr
                have hrr := (hH.1 r hr.1).resolve_left (fun z => z.2 hr)
                have : isSt V s → on υ s = ri σ r ∨ on υ s = -2 := hsr.back (fun x => isSt V x → on υ x = ri σ r ∨ on υ x = -2) (fun _ => Or.inl ((hok2 r hr.1).1 hr)) (fun a b he hb ha => by
                  have hbs := he.st hV ha
                  by_cases har : Rst V a
                  · have e1 := (hok2 a ha).1 har
                    have e2 := (hok2 b hbs).1 (har.cl hV (Rch.one he))
                    have e3 := (hH.2.1 a b har (har.cl hV (Rch.one he))).mpr (Rch.one he)
                    rcases hb hbs with z | z
                    · left; rw [e1, e3, ← e2]; exact z
                    · have := (hH.1 b hbs).resolve_left (fun w => w.2 (har.cl hV (Rch.one he)))
                      omega
                  · rcases hall a ha har with z | z
                    · exact Or.inr z
                    · rcases hb hbs with w | w
                      · rcases z b he with y | y
                        · omega
                        · left; rw [← y]; exact w
                      · rcases z b he with y | y
                        · omega
                        · right; rw [← y]; exact w)
                exact this hs
              have hb : ∀ s, isSt V s → ∀ k, 0 ≤ k → (on υ s = k ↔ BAS V (ri σ) k s) := by
                intro s hs k hk
                constructor
                · intro e r hr hsr
                  rcases key s r hs hr hsr with z | z
                  · omega
                  · omega
                · intro hbas
                  obtain ⟨r, r1, r2⟩ := rch_rest hV hs
                  have e := hbas r r2 r1
                  rcases key s r hs r2 r1 with z | z
                  · omega
                  · rcases (hok2 s hs).2 with y | y | ⟨-, x, x', x1, x2, x3, x4, x5⟩
                    · omega
                    · omega
                    · exact absurd ((hbas x x1 x3).trans (hbas x' x2 x4).symm) x5
              refine b_X13_findOnly_30 ⟨fun _ => cnt1 (σ 14 0 51).toNat 0 (by omega) υ hF2 hok2 hb (fun k hk => by omega), fun z => absurd e z⟩
            · have := hS2 (by omega)
              exact ih υ mm (by omega) hF2 hm2 hok2 (fun z => absurd z e)
          | succ m ihm =>
            intro a υ mm hqa hF2 hm2 hok2 hS1 hS2 hz
            have e50 := eo υ hF2 14 50 (by omega) (by omega)
            have e80 := eo υ hF2 80 a (by omega) (by omega)
            have hst := o3 a (by omega)
            have hsb := st_bd hV hst
            refine b_X13_findOnly_38 ?_
            rw [e50, Int.toNat_natCast, e80]
            refine ⟨fun z => by omega, fun _ => ⟨⟨by omega, by omega⟩, ⟨by omega, by omega⟩, ?_⟩⟩
            generalize hs : σ 80 0 a = s at *
            -- behind the loop over MOVES
            have after : ∀ o, OK1 V (ri σ) (σ 14 0 51) s o → (o = on υ s ∨ ow o < ow (on υ s)) → (¬ Rst V s → o = -2 ∨ ∀ t, E V s t → t ≠ s → on υ t = -1 ∨ on υ t = o) → WP mX13_findOnly 172 [vR 14 0, vI mm, vI (a : Int), vI s, vI o, vU, vU] [] υ Q := by
              intro o q1 q2 q3
              have c84 : ∀ x, 0 ≤ x → on (up υ 84 0 s.toNat o) x = if x = s then o else on υ x := fun x hx => by
                unfold on
                by_cases e : x = s
                · rw [if_pos e, e, up_s]
                · rw [if_neg e, up_j (by omega)]
              have hFn : FR onP σ (up υ 84 0 s.toNat o) := hF2.u ⟨rfl, by omega⟩
              have hokn : ∀ x, isSt V x → OK1 V (ri σ) (σ 14 0 51) x (on (up υ 84 0 s.toNat o) x) := fun x hx => by
                rw [c84 x hx.1.1]
                by_cases e : x = s
                · rw [if_pos e, e]; exact q1
                · rw [if_neg e]; exact hok2 x hx
              have sle : ∀ b : Nat, b < (σ 14 0 50).toNat → ow (on (up υ 84 0 s.toNat o) (σ 80 0 b)) ≤ ow (on υ (σ 80 0 b)) := fun b hb => by
                rw [c84 _ (o3 b (by omega)).1.1]
                by_cases e : σ 80 0 b = s
                · rw [if_pos e, e]
                  rcases q2 with z | z
                  · rw [z]; omega
                  · omega
                · rw [if_neg e]; omega
              have hSn : S (up υ 84 0 s.toNat o) ≤ S υ := sm_le sle
              have hSl : o ≠ on υ s → S (up υ 84 0 s.toNat o) < S υ := fun hne => sm_lt (m := a) (by omega) sle (by
                rw [hs, c84 s hsb.1, if_pos rfl]
                exact q2.resolve_left hne)
              have go : ∀ mm2 : Int, (mm2 = 0 ∨ mm2 = 1) → (mm2 = 1 → S (up υ 84 0 s.toNat o) < S τ) → (mm2 = 0 → mm = 0 ∧ o = on υ s) → in32 ((a : Int) + 1) ∧ WP mX13_findOnly 38 [vR 14 0, vI mm2, vI ((a : Int) + 1), vU, vU, vU, vU] [] (up υ 84 0 s.toNat o) Q := fun mm2 w1 w2 w3 => ⟨by unfold in32; omega, ihm (a + 1) _ mm2 (by omega) hFn w1 hokn (by omega) w2 (fun w4 => by
                obtain ⟨w5, w6⟩ := w3 w4
                have esame : ∀ x, on (up υ 84 0 s.toNat o) x = on υ x := fun x => by
                  unfold on
                  by_cases e : x.toNat = s.toNat
                  · rw [e, up_s, w6]; rfl
                  · rw [up_j e]
                refine ⟨fun x => by rw [esame]; exact (hz w5).1 x, fun b hb hnr => ?_⟩
                simp only [esame]
                by_cases e : b = a
                · rw [e, hs] at hnr ⊢
                  rcases q3 hnr with z | z
                  · left; rw [← w6]; exact z
                  · right
                    intro t ht
                    by_cases et : t = s
                    · right; rw [et]
                    · rw [← w6]; exact z t ht et
                · exact (hz w5).2 b (by omega) hnr)⟩
              refine b_X13_findOnly_172 ⟨fun h1 => ⟨⟨by omega, by omega⟩, go 1 (Or.inr rfl) (fun _ => by have := hS2 (by omega); omega) (fun z => by omega)⟩, fun h1 => ⟨⟨by omega, by omega⟩, fun he => ⟨⟨by omega, by omega⟩, go 0 (Or.inl rfl) (fun z => by omega) (fun _ => ⟨h1, he⟩)⟩, fun hne => ⟨⟨by omega, by omega⟩, go 1 (Or.inr rfl) (fun _ => by have := hSl hne; omega) (fun z => by omega)⟩⟩⟩
            have moves : ∀ (m2 k : Nat) (o : Int), ((m2 + k : Nat) : Int) = pe V * ha V → OK1 V (ri σ) (σ 14 0 51) s o → (o = on υ s ∨ ow o < ow (on υ s)) → (∀ k' : Nat, k' < k → stV V s k' ≠ -1 → efree V s k' → on υ (stV V s k') = -1 ∨ on υ (stV V s k') = o ∨ o = -2) → WP mX13_findOnly 64 [vR 14 0, vI mm, vI (a : Int), vI s, vI o, vI (k : Int), vU] [] υ Q := by
              intro m2
              induction m2 with
              | zero =>
                intro k o hk q1 q2 q3
                refine b_X13_findOnly_64 ?_
                rw [(hTf υ hF2).pe, (hTf υ hF2).ha]
                refine ⟨by unfold in32; omega, fun _ => after o q1 q2 (fun _ => ?_), fun z => by omega⟩
                by_cases e : o = -2
                · exact Or.inl e
                · right
                  intro t ht hne
                  obtain ⟨k', k1, k2, k3⟩ := e_k hV hst ht hne
                  have := q3 k' (by omega) (by rw [k2]; have := (st_bd hV (ht.st hV hst)).1; omega) k3
                  rw [k2] at this
                  omega
              | succ m2 ihk =>
                intro k o hk q1 q2 q3
                have k0 : (0 : Int) ≤ k := by omega
                have k1 : (k : Int) < pe V * ha V := by omega
                have hkb := kk_bd hV k0 k1
                have hsd := stp_sides hV (hTf υ hF2) hst k0 k1
                have hfi := free_iff hV (hRf υ hF2) hst k0 k1
                have e83 := eo υ hF2 83 s.toNat (by omega) (by omega)
                refine b_X13_findOnly_64 ?_
                rw [(hTf υ hF2).ha] at hsd
                rw [(hTf υ hF2).pe, (hTf υ hF2).ha, stp_eq hV (hTf υ hF2) k0 k1, e83]
                have go : ∀ o', OK1 V (ri σ) (σ 14 0 51) s o' → (o' = on υ s ∨ ow o' < ow (on υ s)) → (o' = o ∨ o' = -2 ∨ o = -1) → (stV V s k ≠ -1 → efree V s k → on υ (stV V s k) = -1 ∨ on υ (stV V s k) = o' ∨ o' = -2) → in32 ((k : Int) + 1) ∧ WP mX13_findOnly 64 [vR 14 0, vI mm, vI (a : Int), vI s, vI o', vI ((k : Int) + 1), vU] [] υ Q := fun o' w1 w2 w3 w4 => ⟨by unfold in32; omega, ihk (k + 1) o' (by omega) w1 w2 (fun k' hk' z1 z2 => by
                  by_cases e : k' = k
                  · rw [e] at z1 z2 ⊢; exact w4 z1 z2
                  · have := q3 k' (by omega) z1 z2
                    omega)⟩
                refine ⟨by unfold in32; omega, fun z => by omega, fun _ => ⟨fun h2 => after o q1 q2 (fun _ => Or.inl h2), fun h2 => ⟨⟨by omega, by omega⟩, fun hr => after o q1 q2 (fun hnr => absurd ((hrst s hst).mp hr) hnr), fun hr => ⟨hsd, fun hc => go o q1 q2 (Or.inl rfl) (fun z => absurd hc z), fun hc => ⟨⟨by omega, by omega, by omega, by omega, by omega, by omega, by omega, by omega⟩, fun hf => go o q1 q2 (Or.inl rfl) (fun _ z => absurd (hfi.mpr z) hf), fun hf => ?_⟩⟩⟩⟩⟩
                have hnr : ¬ Rst V s := fun z => (hrst s hst).mpr z hr
                have hE := k_e hV k0 k1 hc (hfi.mp hf)
                have hts := hE.st hV hst
                have htb := st_bd hV hts
                have hto := hok2 _ hts
                have htd := hto.dom
                have hod := q1.dom
                refine ⟨⟨by omega, by omega⟩, fun h3 => go o q1 q2 (Or.inl rfl) (fun _ _ => Or.inl h3), fun h3 => ⟨⟨by omega, by omega⟩, fun h4 => ⟨fun h5 => ?_, fun h5 => ⟨⟨by omega, by omega⟩, ?_⟩⟩, fun h4 => go o q1 q2 (Or.inl rfl) (fun _ _ => Or.inr (Or.inl h4))⟩⟩
                · -- several
                  have h3' : on υ (stV V s k) ≠ -1 := h3
                  have h4' : on υ (stV V s k) ≠ o := h4
                  refine go (-2) ⟨fun z => absurd z hnr, Or.inr (Or.inr ⟨rfl, ?_⟩)⟩ ?_ (Or.inr (Or.inl rfl)) (fun _ _ => Or.inr (Or.inr rfl))
                  · obtain ⟨-, ho⟩ := q1
                    obtain ⟨r, r1, r2, r3⟩ := (ho.resolve_left h5).resolve_right (fun z => h2 z.1) |>.2.2
                    rcases hto.2 with z | ⟨z1, z2, r', y1, y2, y3⟩ | ⟨z1, r', r'', y1, y2, y3, y4, y5⟩
                    · exact absurd z h3'
                    · exact ⟨r', r, y1, r1, (Rch.one hE).tr y2, r2, by omega⟩
                    · exact ⟨r', r'', y1, y2, (Rch.one hE).tr y3, (Rch.one hE).tr y4, y5⟩
                  · right
                    have : ow (-2) = 0 := rfl
                    rw [this]
                    rcases q2 with z | z
                    · rw [← z]; unfold ow; rw [if_neg h5, if_neg h2]; omega
                    · have := (ow_bd o).1; omega
                · have h3' : on υ (stV V s k) ≠ -1 := h3
                  have eon : υ 84 0 (stV V s k).toNat = on υ (stV V s k) := rfl
                  rw [eon]
                  refine go (on υ (stV V s k)) ⟨fun z => absurd z hnr, ?_⟩ ?_ (Or.inr (Or.inr h5)) (fun _ _ => Or.inr (Or.inl rfl))
                  · rcases hto.2 with z | ⟨z1, z2, r', y1, y2, y3⟩ | ⟨z1, r', r'', y1, y2, y3, y4, y5⟩
                    · exact absurd z h3'
                    · exact Or.inr (Or.inl ⟨z1, z2, r', y1, (Rch.one hE).tr y2, y3⟩)
                    · exact Or.inr (Or.inr ⟨z1, r', r'', y1, y2, (Rch.one hE).tr y3, (Rch.one hE).tr y4, y5⟩)
                  · right
                    have h6 : ow (on υ (stV V s k)) ≤ 1 := by unfold ow; rw [if_neg h3']; split <;> omega
                    have h7 : ow o = 2 := by rw [h5]; rfl
                    rcases q2 with z | z
                    · rw [← z, h7]; omega
                    · omega
            exact moves (pe V * ha V).toNat 0 _ (by omega) (hok2 s hst) (Or.inl rfl) (fun k' hk' => by omega)
        exact pass (σ 14 0 50).toNat 0 τ 0 (by omega) hF (Or.inl rfl) hok (Int.le_refl _) (fun z => by omega) (fun _ => ⟨fun _ => rfl, fun b hb => by omega⟩)
  refine b_X13_findOnly_0 ?_
  have init : ∀ n x : Nat, ((n + x : Nat) : Int) = cod V → ∀ τ, FR onP σ τ → (∀ y : Nat, y < x → τ 84 0 y = σ 83 0 y) → WP mX13_findOnly 2 [vR 14 0, vI (x : Int), vU, vU, vU, vU, vU] [] τ Q := by
    intro n
    induction n with
    | zero =>
      intro x hx τ hF hy
      refine b_X13_findOnly_2 ?_
      rw [(hTf τ hF).all hV, (hTf τ hF).pe]
      refine ⟨⟨by omega, by omega⟩, fun _ => loop ((S τ).toNat + 1) τ 1 (by omega) hF (Or.inr rfl) (fun s hs => ?_) (fun z => by omega), fun z => by omega⟩
      have e : on τ s = ri σ s := hy s.toNat (by have := hs.1; unfold inC at this; omega)
      rw [e]
      refine ⟨fun _ => rfl, ?_⟩
      rcases hH.1 s hs with z | z
      · exact Or.inl z.1
      · exact Or.inr (Or.inl ⟨z.1, z.2.1, s, z.2.2, Rch.rf, rfl⟩)
    | succ n ih =>
      intro x hx τ hF hy
      have e83 := eo τ hF 83 x (by omega) (by omega)
      refine b_X13_findOnly_2 ?_
      rw [(hTf τ hF).all hV, (hTf τ hF).pe, Int.toNat_natCast, e83]
      refine ⟨⟨by omega, by omega⟩, fun z => by omega, fun _ => ⟨⟨by omega, by omega⟩, ⟨by omega, by omega⟩, by unfold in32; omega, ih (x + 1) (by omega) _ (hF.u ⟨rfl, by omega⟩) (fun y hy' => ?_)⟩⟩
      by_cases e : y = x
      · rw [e, up_s]
      · rw [up_j e]; exact hy y (by omega)
  exact init (cod V).toNat 0 (by omega) σ FR.rf (fun y hy => by omega)
end Rests
