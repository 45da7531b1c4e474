/-! ===== tokens: a token is its first place ===== -/
noncomputable def rn (P : Nat → Prop) : Nat → Nat → Nat
  | 0, p => p
  | f + 1, p => @ite Nat (P p) (Classical.propDecidable _) (rn P f (p + 1)) p
theorem rn_eq {P : Nat → Prop} : ∀ {f p q : Nat}, p ≤ q → q < p + f → (∀ k, p ≤ k → k < q → P k) → ¬ P q → rn P f p = q := by
  intro f
  induction f with
  | zero => intro p q h1 h2; omega
  | succ f ih =>
    intro p q h1 h2 h3 h4
    rw [rn]
    by_cases e : p = q
    · subst e
      rw [if_neg h4]
    · rw [if_pos (h3 p (Nat.le_refl _) (by omega))]
      exact ih (by omega) (by omega) (fun k a b => h3 k (by omega) b) h4
abbrev TXT : Type := Nat × (Nat → Int)
abbrev bl (I : TXT) (k : Nat) : Prop := k < I.1 ∧ (I.2 k = 32 ∨ I.2 k = 10)
abbrev lt_ (I : TXT) (k : Nat) : Prop := k < I.1 ∧ 97 ≤ I.2 k ∧ I.2 k ≤ 122
abbrev dg_ (I : TXT) (k : Nat) : Prop := k < I.1 ∧ 48 ≤ I.2 k ∧ I.2 k ≤ 57
noncomputable def tS (I : TXT) (p : Nat) : Nat := rn (bl I) 701 p
noncomputable def tE (I : TXT) (s : Nat) : Nat := if lt_ I s then rn (lt_ I) 701 s else if dg_ I s then rn (dg_ I) 701 s else if s < I.1 then s + 1 else s
noncomputable def tK (I : TXT) (s : Nat) : Int := if lt_ I s then (if tE I s ≤ s + 8 then 1 else 4) else if dg_ I s then (if tE I s ≤ s + 4 then 2 else 4) else if s < I.1 then (if I.2 s = 59 then 3 else 4) else 0
def dv (b : Nat → Int) (s : Nat) : Nat → Int
  | 0 => 0
  | m + 1 => dv b s m * 10 + (b (s + m) - 48)
noncomputable def tN (I : TXT) (s : Nat) : Int := dv I.2 s (min (tE I s - s) 4)
noncomputable def nx (I : TXT) (s : Nat) : Nat := tS I (tE I s)
theorem rn_ge {P : Nat → Prop} : ∀ {f p : Nat}, p ≤ rn P f p := by
  intro f
  induction f with
  | zero => intro p; exact Nat.le_refl _
  | succ f ih =>
    intro p
    rw [rn]
    by_cases e : P p
    · rw [if_pos e]
      have := @ih (p + 1)
      omega
    · rw [if_neg e]; exact Nat.le_refl _
theorem rn_gt {P : Nat → Prop} {f p : Nat} (h : P p) : p < rn P (f + 1) p := by
  rw [rn, if_pos h]
  have := @rn_ge P f (p + 1)
  omega
theorem rn_le {P : Nat → Prop} {L : Nat} (hP : ∀ k, P k → k < L) : ∀ {f p : Nat}, p ≤ L → rn P f p ≤ L := by
  intro f
  induction f with
  | zero => intro p h; exact h
  | succ f ih =>
    intro p h
    rw [rn]
    by_cases e : P p
    · rw [if_pos e]
      exact ih (hP p e)
    · rw [if_neg e]; exact h
theorem tS_ge (I : TXT) (p : Nat) : p ≤ tS I p := rn_ge
theorem tS_le {I : TXT} {p : Nat} (h : p ≤ I.1) : tS I p ≤ I.1 := rn_le (fun k hk => hk.1) h
theorem tE_ge (I : TXT) (s : Nat) : s ≤ tE I s := by
  unfold tE
  split
  · exact rn_ge
  · split
    · exact rn_ge
    · split <;> omega
theorem tE_gt {I : TXT} {s : Nat} (h : s < I.1) : s < tE I s := by
  unfold tE
  split
  · rename_i h1; exact rn_gt h1
  · split
    · rename_i h1; exact rn_gt h1
    · omega
theorem tE_le {I : TXT} {s : Nat} (h : s ≤ I.1) : tE I s ≤ I.1 := by
  unfold tE
  split
  · exact rn_le (fun k hk => hk.1) h
  · split
    · exact rn_le (fun k hk => hk.1) h
    · split <;> omega
theorem tK_lt {I : TXT} {s : Nat} (h : tK I s ≠ 0) : s < I.1 := by
  unfold tK at h
  by_cases e : s < I.1
  · exact e
  · rw [if_neg (fun z => e z.1), if_neg (fun z => e z.1), if_neg e] at h
    exact absurd rfl h
theorem nx_le {I : TXT} {s : Nat} (h : s ≤ I.1) : nx I s ≤ I.1 := tS_le (tE_le h)
theorem nx_gt {I : TXT} {s : Nat} (h : s < I.1) : s < nx I s := Nat.lt_of_lt_of_le (tE_gt h) (tS_ge _ _)
theorem dv_bd {b : Nat → Int} {s : Nat} : ∀ {m : Nat}, (∀ k, k < m → 48 ≤ b (s + k) ∧ b (s + k) ≤ 57) → 0 ≤ dv b s m ∧ dv b s m < 10 ^ m := by
  intro m
  induction m with
  | zero => intro _; simp [dv]
  | succ m ih =>
    intro h
    have h1 := ih (fun k hk => h k (by omega))
    have h2 := h m (by omega)
    rw [dv, Int.pow_succ]
    omega
/-- the tape of the class, of the model -/
def TPc (σ : St) (I : TXT) : Prop := σ 8 0 1 = (I.1 : Int) ∧ I.1 ≤ 700 ∧ ∀ k, k < I.1 → band (σ 46 0 k) 255 = I.2 k ∧ 0 ≤ I.2 k ∧ I.2 k ≤ 255
def TPm (σ : St) (I : TXT) : Prop := σ 14 0 3 = (I.1 : Int) ∧ I.1 ≤ 700 ∧ ∀ k, k < I.1 → band (σ 66 0 k) 255 = I.2 k ∧ (0 ≤ I.2 k ∧ I.2 k ≤ 255) ∧ -128 ≤ σ 66 0 k ∧ σ 66 0 k ≤ 127
def TKc (σ : St) (I : TXT) (s : Nat) : Prop := σ 3 0 6 = (s : Int) ∧ σ 3 0 4 = (tE I s : Int) ∧ σ 3 0 5 = tK I s ∧ (tK I s = 2 → σ 3 0 7 = tN I s)
def TKm (σ : St) (I : TXT) (s : Nat) : Prop := σ 14 0 4 = (s : Int) ∧ σ 14 0 5 = (tE I s : Int) ∧ σ 14 0 6 = tK I s ∧ (tK I s = 2 → σ 14 0 7 = tN I s)
theorem TPc.fr {P : Nat → Nat → Nat → Prop} {σ τ : St} {I : TXT} (h : TPc σ I) (f : FR P σ τ) (hP : ∀ c j, (c = 8 ∧ j = 1) ∨ c = 46 → ¬ P c 0 j) : TPc τ I := by
  refine ⟨by rw [f 8 0 1 (hP 8 1 (by omega))]; exact h.1, h.2.1, fun k hk => ?_⟩
  rw [f 46 0 k (hP 46 k (by omega))]
  exact h.2.2 k hk
theorem TPm.fr {P : Nat → Nat → Nat → Prop} {σ τ : St} {I : TXT} (h : TPm σ I) (f : FR P σ τ) (hP : ∀ c j, (c = 14 ∧ j = 3) ∨ c = 66 → ¬ P c 0 j) : TPm τ I := by
  refine ⟨by rw [f 14 0 3 (hP 14 3 (by omega))]; exact h.1, h.2.1, fun k hk => ?_⟩
  rw [f 66 0 k (hP 66 k (by omega))]
  exact h.2.2 k hk
def tcP (c i j : Nat) : Prop := c = 3 ∧ i = 0 ∧ 4 ≤ j ∧ j ≤ 7
def tmP (c i j : Nat) : Prop := c = 14 ∧ i = 0 ∧ 4 ≤ j ∧ j ≤ 7
section TokC
variable {σ : St} {Q : Res → St → Prop} {I : TXT}
theorem at_c {p : Nat} (hT : TPc σ I) (hp : σ 3 0 4 = (p : Int)) : (if 0 ≤ σ 3 0 4 ∧ σ 3 0 4 < σ 8 0 1 then band (σ 46 0 (σ 3 0 4).toNat) 255 else -1) = if p < I.1 then I.2 p else -1 := by
  rw [hp, hT.1, Int.toNat_natCast]
  by_cases e : p < I.1
  · rw [if_pos ⟨by omega, by omega⟩, if_pos e]
    exact (hT.2.2 p e).1
  · rw [if_neg (by omega), if_neg e]
theorem c_readWord {s : Nat} (hT : TPc σ I) (h6 : σ 3 0 6 = (s : Int)) (h4 : σ 3 0 4 = (s : Int)) (hl : lt_ I s) (h : ∀ τ, FR tcP σ τ → TKc τ I s → Q (.inl none) τ) : WP mX2_readWord 0 [vR 3 0] [] σ Q := by
  have hL := hT.2.1
  have key : ∀ n p : Nat, n + p = I.1 → s ≤ p → (∀ k, s ≤ k → k < p → lt_ I k) → ∀ τ, FR tcP σ τ → τ 3 0 6 = (s : Int) → τ 3 0 4 = (p : Int) → WP mX2_readWord 0 [vR 3 0] [] τ Q := by
    intro n
    induction n with
    | zero =>
      intro p hp hsp hk τ f e6 e4
      have hT' := hT.fr f (by unfold tcP; omega)
      have eE : tE I s = p := by unfold tE; rw [if_pos hl]; exact rn_eq hsp (by omega) hk (fun z => by have := z.1; omega)
      refine b_X2_readWord_0 ⟨fun _ => ⟨by rw [e4, e6]; unfold in32; omega, fun z => ?_, fun z => ?_⟩, fun z => by rw [e4, hT'.1] at z; omega⟩
      · rw [e4, e6] at z
        refine h _ (f.u (by unfold tcP; omega)) ⟨by simp [up, e6], by simp [up, e4, eE], by simp [up]; unfold tK; rw [if_pos hl, if_neg (by omega)], fun q => ?_⟩
        unfold tK at q; rw [if_pos hl, if_neg (by omega)] at q; omega
      · rw [e4, e6] at z
        refine h _ (f.u (by unfold tcP; omega)) ⟨by simp [up, e6], by simp [up, e4, eE], by simp [up]; unfold tK; rw [if_pos hl, if_pos (by omega)], fun q => ?_⟩
        unfold tK at q; rw [if_pos hl, if_pos (by omega)] at q; omega
    | succ n ih =>
      intro p hp hsp hk τ f e6 e4
      have hT' := hT.fr f (by unfold tcP; omega)
      have hat := at_c hT' e4
      rw [if_pos (show p < I.1 by omega)] at hat
      refine b_X2_readWord_0 ?_
      rw [hat]
      refine ⟨fun z => by rw [e4, hT'.1] at z; omega, fun _ => ⟨by rw [hT'.1]; omega, fun hn => ⟨by rw [e4, e6]; unfold in32; omega, ?_⟩, fun hy => ⟨by rw [e4]; unfold in32; omega, ?_⟩⟩⟩
      · have eE : tE I s = p := by unfold tE; rw [if_pos hl]; exact rn_eq hsp (by omega) hk (fun z => hn z.2)
        refine ⟨fun z => ?_, fun z => ?_⟩
        · rw [e4, e6] at z
          refine h _ (f.u (by unfold tcP; omega)) ⟨by simp [up, e6], by simp [up, e4, eE], by simp [up]; unfold tK; rw [if_pos hl, if_neg (by omega)], fun q => ?_⟩
          unfold tK at q; rw [if_pos hl, if_neg (by omega)] at q; omega
        · rw [e4, e6] at z
          refine h _ (f.u (by unfold tcP; omega)) ⟨by simp [up, e6], by simp [up, e4, eE], by simp [up]; unfold tK; rw [if_pos hl, if_pos (by omega)], fun q => ?_⟩
          unfold tK at q; rw [if_pos hl, if_pos (by omega)] at q; omega
      · refine ih (p + 1) (by omega) (by omega) (fun k a b => ?_) _ (f.u (by unfold tcP; omega)) (by simp [up, e6]) (by simp [up, e4])
        by_cases e : k = p
        · rw [e]; exact ⟨by omega, hy⟩
        · exact hk k a (by omega)
  exact key (I.1 - s) s (by have := hl.1; omega) (Nat.le_refl _) (fun k a b => by omega) σ FR.rf h6 h4
theorem c_readNumber {s : Nat} (hT : TPc σ I) (h6 : σ 3 0 6 = (s : Int)) (h4 : σ 3 0 4 = (s : Int)) (hl : dg_ I s) (h : ∀ τ, FR tcP σ τ → TKc τ I s → Q (.inl none) τ) : WP mX2_readNumber 0 [vR 3 0] [] σ Q := by
  have hL := hT.2.1
  have hnl : ¬ lt_ I s := fun z => by have := z.2.1; have := hl.2.2; omega
  refine b_X2_readNumber_0 ?_
  have key : ∀ n p : Nat, n + p = I.1 → s ≤ p → (∀ k, s ≤ k → k < p → dg_ I k) → ∀ τ, FR tcP σ τ → τ 3 0 6 = (s : Int) → τ 3 0 4 = (p : Int) → τ 3 0 7 = dv I.2 s (min (p - s) 4) → WP mX2_readNumber 5 [vR 3 0] [] τ Q := by
    intro n
    have fin : ∀ p : Nat, s ≤ p → tE I s = p → ∀ τ, FR tcP σ τ → τ 3 0 6 = (s : Int) → τ 3 0 4 = (p : Int) → τ 3 0 7 = dv I.2 s (min (p - s) 4) → ((4 < (p : Int) - (s : Int) → Q (.inl none) (up τ 3 0 5 4)) ∧ ((p : Int) - (s : Int) ≤ 4 → Q (.inl none) (up τ 3 0 5 2))) := by
      intro p hsp eE τ f e6 e4 e7
      refine ⟨fun z => ?_, fun z => ?_⟩
      · refine h _ (f.u (by unfold tcP; omega)) ⟨by simp [up, e6], by simp [up, e4, eE], by simp [up]; unfold tK; rw [if_neg hnl, if_pos hl, if_neg (by omega)], fun q => ?_⟩
        unfold tK at q; rw [if_neg hnl, if_pos hl, if_neg (by omega)] at q; omega
      · refine h _ (f.u (by unfold tcP; omega)) ⟨by simp [up, e6], by simp [up, e4, eE], by simp [up]; unfold tK; rw [if_neg hnl, if_pos hl, if_pos (by omega)], fun q => ?_⟩
        unfold tN
        rw [eE, ← e7]
        simp [up]
    induction n with
    | zero =>
      intro p hp hsp hk τ f e6 e4 e7
      have hT' := hT.fr f (by unfold tcP; omega)
      have eE : tE I s = p := by unfold tE; rw [if_neg hnl, if_pos hl]; exact rn_eq hsp (by omega) hk (fun z => by have := z.1; omega)
      have := fin p hsp eE τ f e6 e4 e7
      refine b_X2_readNumber_5 ?_
      rw [e4, e6]
      exact ⟨fun _ => ⟨by unfold in32; omega, this⟩, fun z => by rw [hT'.1] at z; omega⟩
    | succ n ih =>
      intro p hp hsp hk τ f e6 e4 e7
      have hT' := hT.fr f (by unfold tcP; omega)
      have hat := at_c hT' e4
      rw [if_pos (show p < I.1 by omega)] at hat
      have hbd := dv_bd (b := I.2) (s := s) (m := min (p - s) 4) (fun k hk' => (hk (s + k) (by omega) (by omega)).2)
      refine b_X2_readNumber_5 ?_
      rw [hat, e4, e6, e7]
      refine ⟨fun z => by rw [hT'.1] at z; omega, fun _ => ⟨by rw [hT'.1]; omega, fun hn => ⟨by unfold in32; omega, ?_⟩, fun hy => ⟨by unfold in32; omega, fun z => ⟨by unfold in32; omega, ?_⟩, fun z => ?_⟩⟩⟩
      · have eE : tE I s = p := by unfold tE; rw [if_neg hnl, if_pos hl]; exact rn_eq hsp (by omega) hk (fun z => hn z.2)
        exact fin p hsp eE τ f e6 e4 e7
      · refine ih (p + 1) (by omega) (by omega) (fun k a b => ?_) _ (f.u (by unfold tcP; omega)) (by simp [up, e6]) (by simp [up]) ?_
        · by_cases e : k = p
          · rw [e]; exact ⟨by omega, hy⟩
          · exact hk k a (by omega)
        · rw [show min (p + 1 - s) 4 = min (p - s) 4 by omega, ← e7]; simp [up]
      · have hm : min (p - s) 4 = p - s := by omega
        have hlt : p - s < 4 := by omega
        rw [hm] at hbd ⊢
        have h10 : (10 : Int) ^ (p - s) ≤ 1000 := by
          have e4 : p - s = 0 ∨ p - s = 1 ∨ p - s = 2 ∨ p - s = 3 := by omega
          rcases e4 with e | e | e | e <;> rw [e] <;> decide
        refine ⟨by unfold in32; omega, by rw [hT'.1]; omega, by unfold in32; omega, by unfold in32; omega, by unfold in32; omega, ?_⟩
        refine ih (p + 1) (by omega) (by omega) (fun k a b => ?_) _ ((f.u (by unfold tcP; omega)).u (by unfold tcP; omega)) (by simp [up, e6]) (by simp [up]) ?_
        · by_cases e : k = p
          · rw [e]; exact ⟨by omega, hy⟩
          · exact hk k a (by omega)
        · rw [show min (p + 1 - s) 4 = (p - s) + 1 by omega, dv, show s + (p - s) = p by omega]
          simp [up]
          omega
  exact key (I.1 - s) s (by have := hl.1; omega) (Nat.le_refl _) (fun k a b => by omega) _ (FR.rf.u (by unfold tcP; omega)) (by simp [up, h6]) (by simp [up, h4]) (by simp [up, dv])
theorem c_nextToken {p : Nat} (h2 : σ 3 0 2 = 0) (hT : TPc σ I) (hp : σ 3 0 4 = (p : Int)) (hpl : p ≤ I.1) (h : ∀ τ, FR tcP σ τ → TKc τ I (tS I p) → Q (.inl none) τ) : WP mX2_nextToken 0 [vR 3 0, vU] [] σ Q := by
  have hL := hT.2.1
  refine b_X2_nextToken_0 ⟨fun _ => ?_, fun z => absurd h2 z⟩
  have tok : ∀ q : Nat, q ≤ I.1 → tS I p = q → ∀ τ, FR tcP σ τ → τ 3 0 4 = (q : Int) → WP mX2_nextToken 52 [vR 3 0, vU] [] τ Q := by
    intro q hq eS τ f e4
    have hT' := hT.fr f (by unfold tcP; omega)
    have hat := at_c hT' e4
    refine b_X2_nextToken_52 ?_
    rw [hat]
    refine ⟨by rw [hT'.1]; omega, fun hne => ?_, fun he => ?_⟩
    · have hlt : q < I.1 := by
        by_cases e : q < I.1
        · exact e
        · rw [if_neg e] at hne; exact absurd rfl hne
      rw [if_pos hlt]
      have f1 : FR tcP σ (up τ 3 0 6 (τ 3 0 4)) := f.u (by unfold tcP; omega)
      have hT1 := hT.fr f1 (by unfold tcP; omega)
      refine ⟨fun hnl => ⟨fun hnd => ⟨fun h59 => ⟨by rw [e4]; unfold in32; omega, ?_⟩, fun h59 => ⟨by rw [e4]; unfold in32; omega, ?_⟩⟩, fun hd => ?_⟩, fun hl => ?_⟩
      · have eE : tE I q = q + 1 := by unfold tE; rw [if_neg (fun z => hnl z.2), if_neg (fun z => hnd z.2), if_pos hlt]
        have eK : tK I q = 4 := by unfold tK; rw [if_neg (fun z => hnl z.2), if_neg (fun z => hnd z.2), if_pos hlt, if_neg h59]
        refine h _ ((f1.u (by unfold tcP; omega)).u (by unfold tcP; omega)) ?_
        rw [eS]
        exact ⟨by simp [up, e4], by simp [up, e4, eE], by simp [up, eK], fun z => by omega⟩
      · have eE : tE I q = q + 1 := by unfold tE; rw [if_neg (fun z => hnl z.2), if_neg (fun z => hnd z.2), if_pos hlt]
        have eK : tK I q = 3 := by unfold tK; rw [if_neg (fun z => hnl z.2), if_neg (fun z => hnd z.2), if_pos hlt, if_pos h59]
        refine h _ ((f1.u (by unfold tcP; omega)).u (by unfold tcP; omega)) ?_
        rw [eS]
        exact ⟨by simp [up, e4], by simp [up, e4, eE], by simp [up, eK], fun z => by omega⟩
      · refine c_readNumber (s := q) hT1 (by simp [up, e4]) (by simp [up, e4]) ⟨hlt, hd⟩ (fun υ f2 hk => ?_)
        show WP mX2_nextToken 110 [vU, vU] [] υ Q
        exact b_X2_nextToken_110 (h _ (f1.tr f2) (by rw [eS]; exact hk))
      · refine c_readWord (s := q) hT1 (by simp [up, e4]) (by simp [up, e4]) ⟨hlt, hl⟩ (fun υ f2 hk => ?_)
        show WP mX2_nextToken 96 [vU, vU] [] υ Q
        exact b_X2_nextToken_96 (h _ (f1.tr f2) (by rw [eS]; exact hk))
    · have hge : ¬ q < I.1 := fun e => by
        rw [if_pos e] at he
        have := (hT.2.2 q e).2.1
        omega
      have eE : tE I q = q := by unfold tE; rw [if_neg (fun z => hge z.1), if_neg (fun z => hge z.1), if_neg hge]
      have eK : tK I q = 0 := by unfold tK; rw [if_neg (fun z => hge z.1), if_neg (fun z => hge z.1), if_neg hge]
      refine h _ ((f.u (by unfold tcP; omega)).u (by unfold tcP; omega)) ?_
      rw [eS]
      exact ⟨by simp [up, e4], by simp [up, e4, eE], by simp [up, eK], fun z => by omega⟩
  have key : ∀ n q : Nat, n + q = I.1 → p ≤ q → (∀ k, p ≤ k → k < q → bl I k) → ∀ τ, FR tcP σ τ → τ 3 0 4 = (q : Int) → WP mX2_nextToken 8 [vR 3 0, vU] [] τ Q := by
    intro n
    induction n with
    | zero =>
      intro q hq hpq hk τ f e4
      have hT' := hT.fr f (by unfold tcP; omega)
      refine b_X2_nextToken_8 ⟨fun _ => tok q (by omega) (rn_eq hpq (by omega) hk (fun z => by have := z.1; omega)) τ f e4, fun z => by rw [e4, hT'.1] at z; omega⟩
    | succ n ih =>
      intro q hq hpq hk τ f e4
      have hT' := hT.fr f (by unfold tcP; omega)
      have hat := at_c hT' e4
      rw [if_pos (show q < I.1 by omega)] at hat
      refine b_X2_nextToken_8 ?_
      rw [hat]
      refine ⟨fun z => by rw [e4, hT'.1] at z; omega, fun _ => ⟨by rw [hT'.1]; omega, fun hn => tok q (by omega) (rn_eq hpq (by omega) hk (fun z => hn z.2)) τ f e4, fun hy => ⟨by rw [e4]; unfold in32; omega, ?_⟩⟩⟩
      refine ih (q + 1) (by omega) (by omega) (fun k a b => ?_) _ (f.u (by unfold tcP; omega)) (by simp [up, e4])
      by_cases e : k = q
      · rw [e]; exact ⟨by omega, hy⟩
      · exact hk k a (by omega)
  exact key (I.1 - p) p (by omega) (Nat.le_refl _) (fun k a b => by omega) σ FR.rf hp
end TokC
