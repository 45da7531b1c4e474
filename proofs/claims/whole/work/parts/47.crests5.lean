/-! ===== the class' Rests: gather, find ===== -/
theorem cnt_sel {P : Nat → Prop} {c : Nat} : ∀ {n : Nat}, c < cnt P n → ∃ b, b < n ∧ P b ∧ cnt P b = c := by
  intro n
  induction n with
  | zero => intro h; exact absurd h (by show ¬ c < 0; omega)
  | succ n ih =>
    intro h
    by_cases c1 : c < cnt P n
    · obtain ⟨b, b1, b2⟩ := ih c1
      exact ⟨b, by omega, b2⟩
    · by_cases p : P n
      · rw [cnt_t p] at h
        exact ⟨n, by omega, p, by omega⟩
      · rw [cnt_f p] at h; omega
theorem cnt_mono {P : Nat → Prop} {a : Nat} : ∀ {b : Nat}, a ≤ b → cnt P a ≤ cnt P b := by
  intro b
  induction b with
  | zero => intro h; rw [show a = 0 by omega]; omega
  | succ b ih =>
    intro h
    by_cases c : a = b + 1
    · rw [c]; omega
    · have := ih (by omega)
      by_cases p : P b
      · rw [cnt_t p]; omega
      · rw [cnt_f p]; exact this
theorem cnt_slt {P : Nat → Prop} {a b : Nat} (h : a < b) (hp : P a) : cnt P a < cnt P b := by
  have := cnt_mono (P := P) (a := a + 1) (b := b) (by omega)
  rw [cnt_t hp] at this; omega
def RSz (σ : St) (i : Nat) (V : Vy) : Prop := ∀ k : Nat, (k : Int) < σ 5 i 0 → σ 30 i (k + 1) - σ 30 i k = (cnt (fun s => isSt V (s : Int) ∧ σ 27 i s = k) 1024 : Nat)
def gaP (i : Nat) (c i' _j : Nat) : Prop := i' = i ∧ (29 ≤ c ∧ c ≤ 31 ∨ c = 33)
section CR5
variable {i j : Nat} {σ : St} {Q : Res → St → Prop} {V : Vy} {s t : Int}
/-- to count in the list is to count the STATES -/
theorem cnt_list (hV : VOK V) (hL : VL σ j V) (P : Nat → Prop) : cnt (fun a => P (σ 61 j a).toNat) (σ 10 j 12).toNat = cnt (fun s => isSt V (s : Int) ∧ P s) 1024 := by
  have hN := hL.1
  have key : ∀ n : Nat, (n : Int) ≤ σ 10 j 12 → cnt (fun a => P (σ 61 j a).toNat) n = cnt (fun s => (∃ a : Nat, a < n ∧ σ 61 j a = (s : Int)) ∧ P s) 1024 := by
    intro n
    induction n with
    | zero => intro _; rw [cnt_0 (P := fun s => (∃ a : Nat, a < 0 ∧ σ 61 j a = (s : Int)) ∧ P s) (fun k _ z => by obtain ⟨⟨a, a1, _⟩, _⟩ := z; omega)]; rfl
    | succ n ih =>
      intro hn
      have hb := st_bd hV (hL.2.1 n (by omega))
      by_cases p : P (σ 61 j n).toNat
      · rw [cnt_t (P := fun a => P (σ 61 j a).toNat) p, ih (by omega)]
        symm
        refine cnt_add (m := (σ 61 j n).toNat) (by omega) (fun k _ hk => ?_) ⟨⟨n, by omega, by omega⟩, p⟩ (fun z => ?_)
        · refine and_congr_left (fun _ => ⟨fun ⟨a, a1, a2⟩ => ⟨a, by omega, a2⟩, fun ⟨a, a1, a2⟩ => ⟨a, ?_, a2⟩⟩)
          apply Classical.byContradiction
          intro q
          rw [show a = n by omega] at a2
          omega
        · obtain ⟨⟨a, a1, a2⟩, _⟩ := z
          have := hL.2.2.1 a n a1 (by omega)
          omega
      · rw [cnt_f (P := fun a => P (σ 61 j a).toNat) p, ih (by omega)]
        refine cnt_eq (fun k _ => ⟨fun ⟨⟨a, a1, a2⟩, a3⟩ => ⟨⟨a, by omega, a2⟩, a3⟩, fun ⟨⟨a, a1, a2⟩, a3⟩ => ⟨⟨a, ?_, a2⟩, a3⟩⟩)
        apply Classical.byContradiction
        intro q
        rw [show a = n by omega] at a2
        exact p (by rw [show (σ 61 j n).toNat = k by omega]; exact a3)
  rw [key _ (by omega)]
  refine cnt_eq (fun k _ => and_congr_left (fun _ => ⟨fun ⟨a, a1, a2⟩ => by rw [← a2]; exact hL.2.1 a (by omega), fun z => ?_⟩))
  obtain ⟨a, a1, a2⟩ := hL.2.2.2.1 _ z
  exact ⟨a, by omega, a2⟩
theorem c_gather {nu : Int} (hV : VOK V) (hA : VA σ j V) (hnu : σ 5 i 0 = nu) (hnu2 : nu ≤ 1024) (hH : HOME V (hm σ i) nu) (hO : ∀ s, isSt V s → ∀ k, 0 ≤ k → (σ 28 i s.toNat = k ↔ BAS V (hm σ i) k s)) (hOb : ∀ s, isSt V s → σ 28 i s.toNat < nu) (h : ∀ τ, FR (gaP i) σ τ → RS τ i V → RSz τ i V → Q (.inl none) τ) : WP mX4_gather 0 [vR 5 i, vR 10 j, vU, vU] [] σ Q := by
  have hL := hA.2.2.2.1
  have hN := hL.1
  have hn0 := hH.2.2.2.2
  have hstb : ∀ k : Nat, (k : Int) < σ 10 j 12 → 0 ≤ σ 61 j k ∧ σ 61 j k < 1024 := fun k hk => st_bd hV (hL.2.1 k hk)
  have hhb : ∀ k : Nat, (k : Int) < σ 10 j 12 → -1 ≤ σ 27 i (σ 61 j k).toNat ∧ σ 27 i (σ 61 j k).toNat < nu := fun k hk => by
    have := hH.1 _ (hL.2.1 k hk)
    have e : hm σ i (σ 61 j k) = σ 27 i (σ 61 j k).toNat := rfl
    omega
  have hob : ∀ k : Nat, (k : Int) < σ 10 j 12 → σ 28 i (σ 61 j k).toNat < nu := fun k hk => hOb _ (hL.2.1 k hk)
  -- counts along the list
  obtain ⟨cH, ecH⟩ : ∃ f : Nat → Nat → Nat, ∀ k n, f k n = cnt (fun a => σ 27 i (σ 61 j a).toNat = (k : Int)) n := ⟨_, fun _ _ => rfl⟩
  obtain ⟨cO, ecO⟩ : ∃ f : Nat → Nat → Nat, ∀ k n, f k n = cnt (fun a => σ 28 i (σ 61 j a).toNat = (k : Int)) n := ⟨_, fun _ _ => rfl⟩
  obtain ⟨Pk, ePk⟩ : ∃ f : Nat → Nat, ∀ k, f k = cnt (fun a => 0 ≤ σ 27 i (σ 61 j a).toNat ∧ σ 27 i (σ 61 j a).toNat < (k : Int)) (σ 10 j 12).toNat := ⟨_, fun _ => rfl⟩
  have cHb : ∀ k n, cH k n ≤ n := fun k n => by rw [ecH]; exact cnt_bd _ n
  have cOb : ∀ k n, cO k n ≤ n := fun k n => by rw [ecO]; exact cnt_bd _ n
  have Pkb : ∀ k, Pk k ≤ (σ 10 j 12).toNat := fun k => by rw [ePk]; exact cnt_bd _ _
  have P0 : Pk 0 = 0 := by rw [ePk]; exact cnt_0 (fun a _ z => by have := z.1; have := z.2; omega)
  have PS : ∀ k, Pk (k + 1) = Pk k + cH k (σ 10 j 12).toNat := fun k => by
    rw [ePk, ePk, ecH, ← cnt_or (P := fun a => 0 ≤ σ 27 i (σ 61 j a).toNat ∧ σ 27 i (σ 61 j a).toNat < (k : Int)) (Q := fun a => σ 27 i (σ 61 j a).toNat = (k : Int)) (fun a _ z => by have := z.1.2; have := z.2; omega)]
    exact cnt_eq (fun a _ => ⟨fun z => by have := z.1; have := z.2; push_cast at *; omega, fun z => by push_cast; omega⟩)
  have PM : ∀ k k', k ≤ k' → Pk k ≤ Pk k' := fun k k' hk => by
    induction k' with
    | zero => rw [show k = 0 by omega]; omega
    | succ k' ih =>
      by_cases c : k = k' + 1
      · rw [c]; omega
      · have := ih (by omega)
        rw [PS]; omega
  have cHt : ∀ k n : Nat, σ 27 i (σ 61 j n).toNat = (k : Int) → cH k (n + 1) = cH k n + 1 := fun k n z => by rw [ecH, ecH]; exact cnt_t z
  have cHf : ∀ k n : Nat, σ 27 i (σ 61 j n).toNat ≠ (k : Int) → cH k (n + 1) = cH k n := fun k n z => by rw [ecH, ecH]; exact cnt_f z
  have cOt : ∀ k n : Nat, σ 28 i (σ 61 j n).toNat = (k : Int) → cO k (n + 1) = cO k n + 1 := fun k n z => by rw [ecO, ecO]; exact cnt_t z
  have cOf : ∀ k n : Nat, σ 28 i (σ 61 j n).toNat ≠ (k : Int) → cO k (n + 1) = cO k n := fun k n z => by rw [ecO, ecO]; exact cnt_f z
  have cHl : ∀ k a b : Nat, a < b → σ 27 i (σ 61 j a).toNat = (k : Int) → cH k a < cH k b := fun k a b hab z => by rw [ecH, ecH]; exact cnt_slt hab z
  have cHm : ∀ k a b : Nat, a ≤ b → cH k a ≤ cH k b := fun k a b hab => by rw [ecH, ecH]; exact cnt_mono hab
  have cHs : ∀ k c : Nat, c < cH k (σ 10 j 12).toNat → ∃ b : Nat, (b : Int) < σ 10 j 12 ∧ σ 27 i (σ 61 j b).toNat = (k : Int) ∧ cH k b = c := fun k c hc => by
    rw [ecH] at hc
    obtain ⟨b, b1, b2, b3⟩ := cnt_sel hc
    exact ⟨b, by omega, b2, by rw [ecH]; exact b3⟩
  have cHN : ∀ k : Nat, cH k (σ 10 j 12).toNat = cnt (fun s => isSt V (s : Int) ∧ σ 27 i s = k) 1024 := fun k => by
    rw [ecH]; exact cnt_list hV hL (fun x => σ 27 i x = k)
  have cON : ∀ k : Nat, cO k (σ 10 j 12).toNat = cnt (fun s => isSt V (s : Int) ∧ σ 28 i s = k) 1024 := fun k => by
    rw [ecO]; exact cnt_list hV hL (fun x => σ 28 i x = k)
  have cHp : ∀ k : Nat, (k : Int) < nu → 0 < cH k (σ 10 j 12).toNat := fun k hk => by
    obtain ⟨x, x1, x2⟩ := hH.2.2.2.1 (k : Int) (by omega) hk
    obtain ⟨a, a1, a2⟩ := hL.2.2.2.1 x x1.1
    have := cHl k a (σ 10 j 12).toNat (by omega) (by rw [a2]; exact x2)
    omega
  -- the last pass
  have p3 : ∀ n m : Nat, ((n + m : Nat) : Int) = σ 10 j 12 → ∀ τ, FR (gaP i) σ τ → (∀ k : Nat, (k : Int) ≤ nu → τ 30 i k = Pk k) → (∀ k : Nat, (k : Int) < nu → τ 31 i k = cO k (σ 10 j 12).toNat) → (∀ k : Nat, (k : Int) < nu → τ 33 i k = Pk k + cH k m) → (∀ k a : Nat, (k : Int) < nu → a < m → σ 27 i (σ 61 j a).toNat = (k : Int) → τ 29 i (Pk k + cH k a) = σ 61 j a) → WP mX4_gather 146 [vR 5 i, vR 10 j, vI (m : Int), vU] [] τ Q := by
    intro n
    induction n with
    | zero =>
      intro m hmN τ f1 t30 t31 t33 t29
      have e12 : τ 10 j 12 = σ 10 j 12 := f1 _ _ _ (fun z => by unfold gaP at z; omega)
      have e5 : τ 5 i 0 = nu := by rw [← hnu]; exact f1 _ _ _ (fun z => by unfold gaP at z; omega)
      have e27 : ∀ x, τ 27 i x = σ 27 i x := fun x => f1 27 i x (fun z => by unfold gaP at z; omega)
      have e28 : ∀ x, τ 28 i x = σ 28 i x := fun x => f1 28 i x (fun z => by unfold gaP at z; omega)
      have eh : hm τ i = hm σ i := by funext x; exact e27 _
      refine b_X4_gather_146 ⟨fun _ => h τ f1 ⟨by rw [eh, e5]; exact hH, by omega, fun x hx k k0 => by rw [eh, e28]; exact hO x hx k k0, fun k k0 k1 => ?_, fun k hk => ?_⟩ (fun k hk => ?_), fun z => by omega⟩
      · rw [e5] at k1
        have ekk : ((k.toNat : Nat) : Int) = k := by omega
        have s1 := t30 k.toNat (by omega)
        have s2 := t30 (k.toNat + 1) (by omega)
        rw [PS] at s2
        have hp := cHp k.toNat (by omega)
        have hle := Pkb (k.toNat + 1)
        rw [PS] at hle
        have sel : ∀ a : Nat, τ 30 i k.toNat ≤ a → (a : Int) < τ 30 i (k.toNat + 1) → ∃ b : Nat, (b : Int) < σ 10 j 12 ∧ σ 27 i (σ 61 j b).toNat = k ∧ Pk k.toNat + cH k.toNat b = a ∧ τ 29 i a = σ 61 j b := fun a a1 a2 => by
          obtain ⟨b, b1, b2, b3⟩ := cHs k.toNat (a - Pk k.toNat) (by omega)
          have e : Pk k.toNat + cH k.toNat b = a := by omega
          refine ⟨b, b1, by omega, e, ?_⟩
          rw [← e]; exact t29 k.toNat b (by omega) (by omega) b2
        refine ⟨by omega, by omega, by omega, fun a a1 a2 => ?_, fun a b a1 hab b2 => ?_, fun x hx hk => ?_⟩
        · obtain ⟨b, b1, b2, b3, b4⟩ := sel a a1 a2
          rw [b4]
          exact ⟨hL.2.1 b b1, by unfold hm; rw [e27]; exact b2⟩
        · obtain ⟨u, u1, u2, u3, u4⟩ := sel a a1 (by omega)
          obtain ⟨v, v1, v2, v3, v4⟩ := sel b (by omega) b2
          rw [u4, v4]
          refine hL.2.2.1 u v ?_ v1
          apply Classical.byContradiction
          intro q
          have := cHm k.toNat v u (by omega)
          omega
        · obtain ⟨b, b1, b2⟩ := hL.2.2.2.1 x hx
          have hk' : σ 27 i (σ 61 j b).toNat = ((k.toNat : Nat) : Int) := by rw [b2, ekk, ← hk]; unfold hm; rw [e27]
          have hlt := cHl k.toNat b (σ 10 j 12).toNat (by omega) hk'
          exact ⟨Pk k.toNat + cH k.toNat b, by omega, by omega, by rw [← b2]; exact t29 k.toNat b (by omega) (by omega) hk'⟩
      · rw [e5] at hk
        rw [t31 k hk, cON, cnt_eq (P := fun s => isSt V (s : Int) ∧ σ 28 i s = k) (Q := fun s => isSt V (s : Int) ∧ τ 28 i s = k) (fun x _ => by rw [e28])]
      · rw [e5] at hk
        rw [t30 (k + 1) (by omega), t30 k (by omega), PS, cHN, cnt_eq (P := fun s => isSt V (s : Int) ∧ σ 27 i s = k) (Q := fun s => isSt V (s : Int) ∧ τ 27 i s = k) (fun x _ => by rw [e27])]
        omega
    | succ n ih =>
      intro m hmN τ f1 t30 t31 t33 t29
      have e12 : τ 10 j 12 = σ 10 j 12 := f1 _ _ _ (fun z => by unfold gaP at z; omega)
      have e61 : τ 61 j m = σ 61 j m := f1 _ _ _ (fun z => by unfold gaP at z; omega)
      have e27 : ∀ x, τ 27 i x = σ 27 i x := fun x => f1 27 i x (fun z => by unfold gaP at z; omega)
      have hmN' : (m : Int) < σ 10 j 12 := by omega
      have hb := hstb m hmN'
      have hh := hhb m hmN'
      refine b_X4_gather_146 ?_
      simp only [Int.toNat_natCast]
      rw [e61, e12, e27]
      refine ⟨fun z => by omega, fun _ => ⟨⟨by omega, by omega⟩, ⟨by omega, by omega⟩, fun z => ⟨by unfold in32; omega, ih (m + 1) (by omega) τ f1 t30 t31 (fun k hk => ?_) (fun k a hk ha hka => ?_)⟩, fun z => ?_⟩⟩
      · rw [cHf k m (by omega)]; exact t33 k hk
      · by_cases c : a = m
        · rw [c] at hka; omega
        · exact t29 k a hk (by omega) hka
      · obtain ⟨k0, hk0⟩ : ∃ k0 : Nat, σ 27 i (σ 61 j m).toNat = (k0 : Int) := ⟨(σ 27 i (σ 61 j m).toNat).toNat, by omega⟩
        have hlo := t33 k0 (by omega)
        have hlt := cHl k0 m (σ 10 j 12).toNat (by omega) hk0
        have hle := Pkb (k0 + 1)
        have hps := PS k0
        rw [hk0, Int.toNat_natCast, hlo]
        refine ⟨⟨by omega, by omega⟩, ⟨by omega, by omega⟩, ⟨by omega, by omega⟩, ⟨by omega, by omega⟩, ⟨by omega, by omega⟩, by unfold in32; omega, ⟨by omega, by omega⟩, by unfold in32; omega, ?_⟩
        rw [show (((Pk k0 : Nat) : Int) + ((cH k0 m : Nat) : Int)).toNat = Pk k0 + cH k0 m by omega]
        have u29 : ∀ x, (up (up τ 29 i (Pk k0 + cH k0 m) (σ 61 j m)) 33 i k0 ((Pk k0 : Int) + (cH k0 m : Int) + 1)) 29 i x = if x = Pk k0 + cH k0 m then σ 61 j m else τ 29 i x := fun x => by simp [up]
        have u33 : ∀ x, (up (up τ 29 i (Pk k0 + cH k0 m) (σ 61 j m)) 33 i k0 ((Pk k0 : Int) + (cH k0 m : Int) + 1)) 33 i x = if x = k0 then (Pk k0 : Int) + (cH k0 m : Int) + 1 else τ 33 i x := fun x => by simp [up]
        refine ih (m + 1) (by omega) _ ((f1.u ⟨rfl, by omega⟩).u ⟨rfl, by omega⟩) (fun k hk => by rw [up_c (by omega), up_c (by omega)]; exact t30 k hk) (fun k hk => by rw [up_c (by omega), up_c (by omega)]; exact t31 k hk) (fun k hk => ?_) (fun k a hk ha hka => ?_)
        · rw [u33]
          by_cases c : k = k0
          · rw [if_pos c, c, cHt k0 m hk0]; push_cast; omega
          · rw [if_neg c, cHf k m (by omega)]; exact t33 k hk
        · rw [u29]
          by_cases c : a = m
          · subst c
            have ek : k = k0 := by omega
            rw [ek, if_pos rfl]
          · rw [if_neg (fun q => ?_)]
            · exact t29 k a hk (by omega) hka
            · by_cases ck : k = k0
              · rw [ck] at q hka
                have := cHl k0 a m (by omega) hka
                omega
              · have ha' := cHl k a (σ 10 j 12).toNat (by omega) hka
                have hps' := PS k
                rcases Nat.lt_or_gt_of_ne ck with w | w
                · have := PM (k + 1) k0 (by omega); omega
                · have := PM (k0 + 1) k (by omega); omega
  -- sums
  have p2 : ∀ n m : Nat, ((n + m : Nat) : Int) = nu → ∀ τ, FR (gaP i) σ τ → (∀ k : Nat, k ≤ m → τ 30 i k = Pk k) → (∀ k : Nat, m ≤ k → (k : Int) < nu → τ 30 i (k + 1) = cH k (σ 10 j 12).toNat) → (∀ k : Nat, (k : Int) < nu → τ 31 i k = cO k (σ 10 j 12).toNat) → (∀ k : Nat, k < m → τ 33 i k = Pk k) → WP mX4_gather 101 [vR 5 i, vR 10 j, vI (m : Int), vU] [] τ Q := by
    intro n
    induction n with
    | zero =>
      intro m hmN τ f1 t30 t30' t31 t33
      have e5 : τ 5 i 0 = nu := by rw [← hnu]; exact f1 _ _ _ (fun z => by unfold gaP at z; omega)
      refine b_X4_gather_101 ⟨fun _ => ?_, fun z => by omega⟩
      exact p3 (σ 10 j 12).toNat 0 (by omega) τ f1 (fun k hk => t30 k (by omega)) t31 (fun k hk => by rw [t33 k (by omega)]; have := cHb k 0; omega) (fun k a _ ha => by omega)
    | succ n ih =>
      intro m hmN τ f1 t30 t30' t31 t33
      have e5 : τ 5 i 0 = nu := by rw [← hnu]; exact f1 _ _ _ (fun z => by unfold gaP at z; omega)
      have s1 := t30 m (Nat.le_refl _)
      have s2 := t30' m (Nat.le_refl _) (by omega)
      have b1 := Pkb m
      have b2 := cHb m (σ 10 j 12).toNat
      refine b_X4_gather_101 ?_
      rw [show ((m : Int) + 1) = ((m + 1 : Nat) : Int) by push_cast; rfl]
      simp only [Int.toNat_natCast]
      rw [up_j (show m ≠ m + 1 by omega), s1, s2]
      refine ⟨fun z => by omega, fun _ => ⟨by unfold in32; omega, ⟨by omega, by omega⟩, ⟨by omega, by omega⟩, by unfold in32; omega, ⟨by omega, by omega⟩, ⟨by omega, by omega⟩, ⟨by omega, by omega⟩, by unfold in32; omega, ?_⟩⟩
      have u30 : ∀ x, (up (up τ 30 i (m + 1) ((cH m (σ 10 j 12).toNat : Int) + (Pk m : Int))) 33 i m (Pk m : Int)) 30 i x = if x = m + 1 then (cH m (σ 10 j 12).toNat : Int) + (Pk m : Int) else τ 30 i x := fun x => by simp [up]
      have u33 : ∀ x, (up (up τ 30 i (m + 1) ((cH m (σ 10 j 12).toNat : Int) + (Pk m : Int))) 33 i m (Pk m : Int)) 33 i x = if x = m then (Pk m : Int) else τ 33 i x := fun x => by simp [up]
      refine ih (m + 1) (by omega) _ ((f1.u ⟨rfl, by omega⟩).u ⟨rfl, by omega⟩) (fun k hk => ?_) (fun k hk hk' => ?_) (fun k hk => by rw [up_c (by omega), up_c (by omega)]; exact t31 k hk) (fun k hk => ?_)
      · rw [u30]
        by_cases c : k = m + 1
        · rw [if_pos c, c, PS]; push_cast; omega
        · rw [if_neg c]; exact t30 k (by omega)
      · rw [u30, if_neg (by omega)]; exact t30' k (by omega) hk'
      · rw [u33]
        by_cases c : k = m
        · rw [if_pos c, c]
        · rw [if_neg c]; exact t33 k (by omega)
  -- counts
  have p1 : ∀ n m : Nat, ((n + m : Nat) : Int) = σ 10 j 12 → ∀ τ, FR (gaP i) σ τ → τ 30 i 0 = 0 → (∀ k : Nat, (k : Int) < nu → τ 30 i (k + 1) = cH k m) → (∀ k : Nat, (k : Int) < nu → τ 31 i k = cO k m) → WP mX4_gather 28 [vR 5 i, vR 10 j, vI (m : Int), vU] [] τ Q := by
    intro n
    induction n with
    | zero =>
      intro m hmN τ f1 t0 t30 t31
      have e12 : τ 10 j 12 = σ 10 j 12 := f1 _ _ _ (fun z => by unfold gaP at z; omega)
      refine b_X4_gather_28 ⟨fun _ => ?_, fun z => by omega⟩
      rw [show m = (σ 10 j 12).toNat by omega] at t30 t31
      exact p2 nu.toNat 0 (by omega) τ f1 (fun k hk => by rw [show k = 0 by omega, P0, t0]; rfl) (fun k _ hk => t30 k hk) t31 (fun k hk => by omega)
    | succ n ih =>
      intro m hmN τ f1 t0 t30 t31
      have e12 : τ 10 j 12 = σ 10 j 12 := f1 _ _ _ (fun z => by unfold gaP at z; omega)
      have e61 : τ 61 j m = σ 61 j m := f1 _ _ _ (fun z => by unfold gaP at z; omega)
      have e27 : ∀ x, τ 27 i x = σ 27 i x := fun x => f1 27 i x (fun z => by unfold gaP at z; omega)
      have hmN' : (m : Int) < σ 10 j 12 := by omega
      have hb := hstb m hmN'
      have hh := hhb m hmN'
      have ho := hob m hmN'
      have go : ∀ υ, FR (gaP i) σ υ → υ 30 i 0 = 0 → (∀ k : Nat, (k : Int) < nu → υ 30 i (k + 1) = cH k (m + 1)) → (∀ k : Nat, (k : Int) < nu → υ 31 i k = cO k m) → WP mX4_gather 69 [vR 5 i, vR 10 j, vI (m : Int), vI (σ 61 j m)] [] υ Q := fun υ g1 g0 g30 g31 => by
        have e28 : υ 28 i (σ 61 j m).toNat = σ 28 i (σ 61 j m).toNat := g1 28 i _ (fun z => by unfold gaP at z; omega)
        refine b_X4_gather_69 ?_
        rw [e28]
        refine ⟨⟨by omega, by omega⟩, fun z => ⟨by unfold in32; omega, ih (m + 1) (by omega) υ g1 g0 g30 (fun k hk => by rw [cOf k m (by omega)]; exact g31 k hk)⟩, fun z => ?_⟩
        obtain ⟨k0, hk0⟩ : ∃ k0 : Nat, σ 28 i (σ 61 j m).toNat = (k0 : Int) := ⟨(σ 28 i (σ 61 j m).toNat).toNat, by omega⟩
        have hv := g31 k0 (by omega)
        have hvb := cOb k0 m
        rw [hk0, Int.toNat_natCast, hv]
        refine ⟨⟨by omega, by omega⟩, ⟨by omega, by omega⟩, by unfold in32; omega, ⟨by omega, by omega⟩, by unfold in32; omega, ?_⟩
        refine ih (m + 1) (by omega) _ (g1.u ⟨rfl, by omega⟩) (by rw [up_c (by omega)]; exact g0) (fun k hk => by rw [up_c (by omega)]; exact g30 k hk) (fun k hk => ?_)
        by_cases c : k = k0
        · rw [c, up_s, cOt k0 m hk0]; push_cast; rfl
        · rw [up_j c, cOf k m (by omega)]; exact g31 k hk
      refine b_X4_gather_28 ?_
      simp only [Int.toNat_natCast]
      rw [e61, e12, e27]
      refine ⟨fun z => by omega, fun _ => ⟨⟨by omega, by omega⟩, ⟨by omega, by omega⟩, fun z => go τ f1 t0 (fun k hk => by rw [cHf k m (by omega)]; exact t30 k hk) t31, fun z => ?_⟩⟩
      obtain ⟨k0, hk0⟩ : ∃ k0 : Nat, σ 27 i (σ 61 j m).toNat = (k0 : Int) := ⟨(σ 27 i (σ 61 j m).toNat).toNat, by omega⟩
      have hv := t30 k0 (by omega)
      have hvb := cHb k0 m
      rw [hk0, show (((k0 : Nat) : Int) + 1).toNat = k0 + 1 by omega, hv]
      refine ⟨⟨by omega, by omega⟩, by unfold in32; omega, ⟨by omega, by omega⟩, by unfold in32; omega, ⟨by omega, by omega⟩, ?_⟩
      refine go _ (f1.u ⟨rfl, by omega⟩) (by rw [up_j (by omega)]; exact t0) (fun k hk => ?_) (fun k hk => by rw [up_c (by omega)]; exact t31 k hk)
      by_cases c : k = k0
      · rw [c, up_s, cHt k0 m hk0]; push_cast; rfl
      · rw [up_j (by omega), cHf k m (by omega)]; exact t30 k hk
  refine b_X4_gather_0 ?_
  rw [hnu]
  refine ⟨by unfold in32; omega, c_fillTo (by omega) rfl rfl (by omega) rfl ?_⟩
  show WP mX4_gather 14 [vR 5 i, vR 10 j, vU, vU] [] _ Q
  refine b_X4_gather_14 (c_fillTo (by omega) rfl rfl (by omega) rfl ?_)
  show WP mX4_gather 26 [vR 5 i, vR 10 j, vU, vU] [] _ Q
  refine b_X4_gather_26 ?_
  have e30 : ∀ k : Nat, (k : Int) ≤ nu → (upR (upR σ 30 i 0 (min (nu + 1).toNat (al 30)) (fun _ => 0)) 31 i 0 (min ((upR σ 30 i 0 (min (nu + 1).toNat (al 30)) (fun _ => 0)) 5 i 0).toNat (al 31)) (fun _ => 0)) 30 i k = 0 := fun k hk => by
    unfold upR
    rw [if_neg (fun z => by omega), if_pos ⟨rfl, rfl, by omega, by show k < 0 + min (nu + 1).toNat 1025; omega⟩]
  have e5' : (upR σ 30 i 0 (min (nu + 1).toNat (al 30)) (fun _ => 0)) 5 i 0 = nu := by
    unfold upR
    rw [if_neg (fun z => by omega)]; exact hnu
  have e31 : ∀ k : Nat, (k : Int) < nu → (upR (upR σ 30 i 0 (min (nu + 1).toNat (al 30)) (fun _ => 0)) 31 i 0 (min ((upR σ 30 i 0 (min (nu + 1).toNat (al 30)) (fun _ => 0)) 5 i 0).toNat (al 31)) (fun _ => 0)) 31 i k = 0 := fun k hk => by
    rw [e5']
    unfold upR
    rw [if_pos ⟨rfl, rfl, by omega, by show k < 0 + min nu.toNat 1024; omega⟩]
  refine p1 (σ 10 j 12).toNat 0 (by omega) _ ((FR.rf.uR (fun k _ _ => ⟨rfl, by omega⟩)).uR (fun k _ _ => ⟨rfl, by omega⟩)) (e30 0 (by omega)) (fun k hk => by rw [e30 (k + 1) (by omega)]; have := cHb k 0; omega) (fun k hk => by rw [e31 k hk]; have := cOb k 0; omega)
end CR5
