/-! ===== what a text tells: clauses as functions ===== -/
abbrev PSt : Type := Vy × (Nat → Int) × (Nat → Int) × (Nat → Int)
abbrev Rr : Type := (PSt × Nat) ⊕ (Int × Nat)
def fu (f : Nat → Int) (k : Nat) (x : Int) : Nat → Int := fun j => if j = k then x else f j
theorem fu_s (f : Nat → Int) (k : Nat) (x : Int) : fu f k x k = x := by simp [fu]
theorem fu_n {f : Nat → Int} {k j : Nat} {x : Int} (h : j ≠ k) : fu f k x j = f j := by simp [fu, h]
noncomputable def num (I : TXT) (lo hi : Int) (s : Nat) (K : Int → Rr) : Rr := if tK I s ≠ 2 then .inr (1, s) else if lo ≤ tN I s ∧ tN I s ≤ hi then K (tN I s) else .inr (2, s)
noncomputable def fin_ (I : TXT) (D : PSt) (e : Nat) : Rr := if tK I e = 3 then .inl (D, e) else .inr (1, e)
def bindR (X : Rr) (K : PSt → Nat → Rr) : Rr := match X with
  | .inl (D, e) => K D e
  | .inr f => .inr f
noncomputable def pif (p : Prop) (a b : Rr) : Rr := @ite Rr p (Classical.propDecidable p) a b
theorem pif_t {p : Prop} {a b : Rr} (h : p) : pif p a b = a := if_pos h
theorem pif_f {p : Prop} {a b : Rr} (h : ¬ p) : pif p a b = b := if_neg h
noncomputable def qPeople (I : TXT) (D : PSt) (s : Nat) : Rr := if D.2.1 0 = 1 then .inr (3, s) else if D.2.1 5 = 1 then .inr (4, s) else num I 2 10 (nx I s) (fun v => if ha D.1 ^ v.toNat ≤ 1024 then .inl (((fu D.1.1 0 v, D.1.2), fu D.2.1 0 1, D.2.2), nx I (nx I s)) else .inr (2, nx I s))
noncomputable def qHabits (I : TXT) (D : PSt) (s : Nat) : Rr := if D.2.1 1 = 1 then .inr (3, s) else if D.2.1 5 = 1 then .inr (4, s) else num I 2 4 (nx I s) (fun v => if v ^ (pe D.1).toNat ≤ 1024 then .inl (((fu D.1.1 1 v, D.1.2), fu D.2.1 1 1, D.2.2), nx I (nx I s)) else .inr (2, nx I s))
noncomputable def qWorth (I : TXT) (D : PSt) (s : Nat) : Rr := num I 0 (ha D.1 - 1) (nx I s) (fun i => num I 0 (ha D.1 - 1) (nx I (nx I s)) (fun j => if D.2.2.1 (4 * i + j).toNat = 1 then .inr (3, nx I (nx I s)) else num I 0 99 (nx I (nx I (nx I s))) (fun v => .inl (((D.1.1, fu D.1.2.1 (4 * i + j).toNat v, D.1.2.2), fu D.2.1 5 1, fu D.2.2.1 (4 * i + j).toNat 1, D.2.2.2), nx I (nx I (nx I (nx I s)))))))
def me2 (m : Nat → Int) (p q : Nat) : Nat → Int := fu (fu m p (sadd (m p) q)) q (sadd (m q) p)
noncomputable def qMt (I : TXT) : Nat → PSt → Nat → Rr
  | 0, _, s => .inr (1, s)
  | f + 1, D, s => num I 0 (pe D.1 - 1) s (fun p => num I 0 (pe D.1 - 1) (nx I s) (fun q => if p = q ∨ tbit (me D.1 p.toNat) q.toNat = true then .inr (3, nx I s) else if tK I (nx I (nx I s)) = 2 then qMt I f ((D.1.1, D.1.2.1, D.1.2.2.1, me2 D.1.2.2.2.1 p.toNat q.toNat, D.1.2.2.2.2), D.2) (nx I (nx I s)) else .inl (((D.1.1, D.1.2.1, D.1.2.2.1, me2 D.1.2.2.2.1 p.toNat q.toNat, D.1.2.2.2.2), D.2), nx I (nx I s))))
noncomputable def qMeets (I : TXT) (D : PSt) (s : Nat) : Rr := qMt I 702 (D.1, fu (fu D.2.1 5 1) 4 1, D.2.2) (nx I s)
noncomputable def qAnswer (I : TXT) (D : PSt) (s : Nat) : Rr := if D.2.1 2 = 1 then .inr (3, s) else pif (isW I 8 (nx I s)) (.inl (((fu D.1.1 2 0, D.1.2), fu D.2.1 2 1, D.2.2), nx I (nx I s))) (pif (isW I 9 (nx I s)) (.inl (((fu D.1.1 2 1, D.1.2), fu D.2.1 2 1, D.2.2), nx I (nx I s))) (pif (isW I 10 (nx I s)) (.inl (((fu D.1.1 2 2, D.1.2), fu D.2.1 2 1, D.2.2), nx I (nx I s))) (.inr (1, nx I s))))
noncomputable def qStays (I : TXT) (D : PSt) (s : Nat) : Rr := if sy D.1 = 1 then .inr (3, s) else .inl (((fu D.1.1 3 1, D.1.2), D.2), nx I s)
noncomputable def qKeeps (I : TXT) (D : PSt) (s : Nat) : Rr := num I 0 (pe D.1 - 1) (nx I s) (fun p => if ke D.1 p.toNat ≠ -1 then .inr (3, nx I s) else num I 0 (ha D.1 - 1) (nx I (nx I s)) (fun v => .inl (((D.1.1, D.1.2.1, D.1.2.2.1, D.1.2.2.2.1, fu D.1.2.2.2.2 p.toNat v), fu D.2.1 5 1, D.2.2), nx I (nx I (nx I s)))))
noncomputable def qSlip (I : TXT) (D : PSt) (s : Nat) : Rr := num I 0 (ha D.1 - 1) (nx I s) (fun i => if D.2.2.2 i.toNat = 1 then .inr (3, nx I s) else num I 1 3 (nx I (nx I s)) (fun v => .inl (((D.1.1, D.1.2.1, fu D.1.2.2.1 i.toNat v, D.1.2.2.2), fu D.2.1 5 1, D.2.2.1, fu D.2.2.2 i.toNat 1), nx I (nx I (nx I s)))))
noncomputable def qC0 (I : TXT) (D : PSt) (s : Nat) : Rr := pif (isW I 0 s) (qPeople I D s) (pif (isW I 1 s) (qHabits I D s) (pif (isW I 2 s) (qWorth I D s) (pif (isW I 3 s) (qMeets I D s) (pif (isW I 4 s) (qAnswer I D s) (pif (isW I 5 s) (qStays I D s) (pif (isW I 6 s) (qKeeps I D s) (pif (isW I 7 s) (qSlip I D s) (.inr (1, s)))))))))
noncomputable def qC (I : TXT) (D : PSt) (s : Nat) : Rr := bindR (qC0 I D s) (fin_ I)
noncomputable def qP (I : TXT) : Nat → PSt → Nat → Int → (PSt × Int) ⊕ (Int × Nat)
  | 0, _, s, _ => .inr (1, s)
  | f + 1, D, s, n => if tK I s = 0 then .inl (D, n) else match qC I D s with
    | .inl (D', e) => qP I f D' (nx I e) (n + 1)
    | .inr x => .inr x
/-- bounds -/
def DOK (D : PSt) : Prop := (2 ≤ pe D.1 ∧ pe D.1 ≤ 10) ∧ (2 ≤ ha D.1 ∧ ha D.1 ≤ 4) ∧ cod D.1 ≤ 1024 ∧ (0 ≤ an D.1 ∧ an D.1 ≤ 2) ∧ (sy D.1 = 0 ∨ sy D.1 = 1) ∧ (∀ j, j < 16 → 0 ≤ ge D.1 j ∧ ge D.1 j ≤ 99) ∧ (∀ j, j < 4 → 1 ≤ sl D.1 j ∧ sl D.1 j ≤ 3) ∧ (∀ j, j < 10 → 0 ≤ me D.1 j ∧ me D.1 j < 1024) ∧ (∀ p, p < 10 → ke D.1 p = -1 ∨ (0 ≤ ke D.1 p ∧ ke D.1 p < ha D.1)) ∧ (∀ k, D.2.1 k = 0 ∨ D.2.1 k = 1) ∧ (∀ j, D.2.2.1 j = 0 ∨ D.2.2.1 j = 1) ∧ (∀ j, D.2.2.2 j = 0 ∨ D.2.2.2 j = 1) ∧ (D.2.1 5 = 0 → ∀ p, p < 10 → ke D.1 p = -1)
theorem num_ok {I : TXT} {lo hi : Int} {s : Nat} (h1 : tK I s = 2) (h2 : lo ≤ tN I s ∧ tN I s ≤ hi) (K : Int → Rr) : num I lo hi s K = K (tN I s) := by unfold num; rw [if_neg (fun z => z h1), if_pos h2]
theorem num_1 {I : TXT} {lo hi : Int} {s : Nat} (h1 : tK I s ≠ 2) (K : Int → Rr) : num I lo hi s K = .inr (1, s) := by unfold num; rw [if_pos h1]
theorem num_2 {I : TXT} {lo hi : Int} {s : Nat} (h1 : tK I s = 2) (h2 : ¬ (lo ≤ tN I s ∧ tN I s ≤ hi)) (K : Int → Rr) : num I lo hi s K = .inr (2, s) := by unfold num; rw [if_neg (fun z => z h1), if_neg h2]
theorem num_inv {I : TXT} {lo hi : Int} {s : Nat} {K : Int → Rr} {R : PSt × Nat} (h : num I lo hi s K = .inl R) : s < I.1 ∧ lo ≤ tN I s ∧ tN I s ≤ hi ∧ K (tN I s) = .inl R := by
  by_cases h1 : tK I s = 2
  · by_cases h2 : lo ≤ tN I s ∧ tN I s ≤ hi
    · rw [num_ok h1 h2] at h
      exact ⟨tK_lt (by omega), h2.1, h2.2, h⟩
    · rw [num_2 h1 h2] at h; cases h
  · rw [num_1 h1] at h; cases h
section Pure
variable {I : TXT} {D D' : PSt} {s e : Nat}
theorem fu01 {f : Nat → Int} {k : Nat} (h : ∀ j, f j = 0 ∨ f j = 1) : ∀ j, fu f k 1 j = 0 ∨ fu f k 1 j = 1 := fun j => by
  by_cases q : j = k
  · rw [q, fu_s]; exact Or.inr rfl
  · rw [fu_n q]; exact h j
theorem ok_people (hD : DOK D) (hs : s < I.1) (h : qPeople I D s = .inl (D', e)) : DOK D' ∧ s < e ∧ e ≤ I.1 := by
  obtain ⟨a1, a2, a3, a4, a5, a6, a7, a8, a9, a10, a11, a12, a13⟩ := hD
  unfold qPeople at h
  by_cases e1 : D.2.1 0 = 1
  · rw [if_pos e1] at h; cases h
  rw [if_neg e1] at h
  by_cases e2 : D.2.1 5 = 1
  · rw [if_pos e2] at h; cases h
  rw [if_neg e2] at h
  obtain ⟨g1, g2, g3, h⟩ := num_inv h
  by_cases e3 : ha D.1 ^ (tN I (nx I s)).toNat ≤ 1024
  · rw [if_pos e3] at h
    cases h
    have b1 := nx_gt hs
    have b2 := nx_gt g1
    have b3 := nx_le (Nat.le_of_lt g1)
    have f5 : D.2.1 5 = 0 := (a10 5).resolve_right e2
    refine ⟨⟨⟨g2, g3⟩, a2, e3, a4, a5, a6, a7, a8, a9, fu01 a10, a11, a12, fun _ => a13 f5⟩, by omega, b3⟩
  · rw [if_neg e3] at h; cases h
theorem ok_habits (hD : DOK D) (hs : s < I.1) (h : qHabits I D s = .inl (D', e)) : DOK D' ∧ s < e ∧ e ≤ I.1 := by
  obtain ⟨a1, a2, a3, a4, a5, a6, a7, a8, a9, a10, a11, a12, a13⟩ := hD
  unfold qHabits at h
  by_cases e1 : D.2.1 1 = 1
  · rw [if_pos e1] at h; cases h
  rw [if_neg e1] at h
  by_cases e2 : D.2.1 5 = 1
  · rw [if_pos e2] at h; cases h
  rw [if_neg e2] at h
  obtain ⟨g1, g2, g3, h⟩ := num_inv h
  by_cases e3 : tN I (nx I s) ^ (pe D.1).toNat ≤ 1024
  · rw [if_pos e3] at h
    cases h
    have b1 := nx_gt hs
    have b2 := nx_gt g1
    have b3 := nx_le (Nat.le_of_lt g1)
    have f5 : D.2.1 5 = 0 := (a10 5).resolve_right e2
    refine ⟨⟨a1, ⟨g2, g3⟩, e3, a4, a5, a6, a7, a8, fun p hp => Or.inl (a13 f5 p hp), fu01 a10, a11, a12, fun _ => a13 f5⟩, by omega, b3⟩
  · rw [if_neg e3] at h; cases h
theorem ok_worth (hD : DOK D) (hs : s < I.1) (h : qWorth I D s = .inl (D', e)) : DOK D' ∧ s < e ∧ e ≤ I.1 := by
  obtain ⟨a1, a2, a3, a4, a5, a6, a7, a8, a9, a10, a11, a12, a13⟩ := hD
  unfold qWorth at h
  obtain ⟨g1, g2, g3, h⟩ := num_inv h
  obtain ⟨g4, g5, g6, h⟩ := num_inv h
  by_cases e3 : D.2.2.1 (4 * tN I (nx I s) + tN I (nx I (nx I s))).toNat = 1
  · rw [if_pos e3] at h; cases h
  rw [if_neg e3] at h
  obtain ⟨g7, g8, g9, h⟩ := num_inv h
  cases h
  have b1 := nx_gt hs
  have b2 := nx_gt g1
  have b3 := nx_gt g4
  have b4 := nx_gt g7
  have b5 := nx_le (Nat.le_of_lt g7)
  refine ⟨⟨a1, a2, a3, a4, a5, fun j hj => ?_, a7, a8, a9, fu01 a10, fu01 a11, a12, fun z => ?_⟩, by omega, b5⟩
  · show 0 ≤ fu D.1.2.1 _ _ j ∧ fu D.1.2.1 _ _ j ≤ 99
    by_cases q : j = (4 * tN I (nx I s) + tN I (nx I (nx I s))).toNat
    · rw [q, fu_s]; exact ⟨g8, g9⟩
    · rw [fu_n q]; exact a6 j hj
  · have : fu D.2.1 5 1 5 = 0 := z
    rw [fu_s] at this; omega
theorem me2_bd {m : Nat → Int} {p q : Nat} (hm : ∀ j, j < 10 → 0 ≤ m j ∧ m j < 1024) (hp : p < 10) (hq : q < 10) : ∀ j, j < 10 → 0 ≤ me2 m p q j ∧ me2 m p q j < 1024 := by
  intro j hj
  unfold me2
  by_cases e1 : j = q
  · rw [e1, fu_s]
    have := sadd_bd (m := m q) (q := p) (n := 10) (by have := hm q hq; omega) hp
    omega
  · rw [fu_n e1]
    by_cases e2 : j = p
    · rw [e2, fu_s]
      have := sadd_bd (m := m p) (q := q) (n := 10) (by have := hm p hp; omega) hq
      omega
    · rw [fu_n e2]; exact hm j hj
theorem ok_mt : ∀ (f : Nat) {D D' : PSt} {s e : Nat}, DOK D → s ≤ I.1 → qMt I f D s = .inl (D', e) → DOK D' ∧ s < e ∧ e ≤ I.1 := by
  intro f
  induction f with
  | zero => intro D D' s e _ _ h; cases h
  | succ f ih =>
    intro D D' s e hD hs h
    rw [qMt] at h
    obtain ⟨g1, g2, g3, h⟩ := num_inv h
    obtain ⟨g4, g5, g6, h⟩ := num_inv h
    by_cases e3 : tN I s = tN I (nx I s) ∨ tbit (me D.1 (tN I s).toNat) (tN I (nx I s)).toNat = true
    · rw [if_pos e3] at h; cases h
    rw [if_neg e3] at h
    have b1 := nx_gt g1
    have b2 := nx_gt g4
    have b3 := nx_le (Nat.le_of_lt g4)
    have hpe := hD.1
    have hD1 : DOK ((D.1.1, D.1.2.1, D.1.2.2.1, me2 D.1.2.2.2.1 (tN I s).toNat (tN I (nx I s)).toNat, D.1.2.2.2.2), D.2) := by
      obtain ⟨a1, a2, a3, a4, a5, a6, a7, a8, a9, a10, a11, a12, a13⟩ := hD
      exact ⟨a1, a2, a3, a4, a5, a6, a7, me2_bd a8 (by omega) (by omega), a9, a10, a11, a12, a13⟩
    by_cases e4 : tK I (nx I (nx I s)) = 2
    · rw [if_pos e4] at h
      obtain ⟨c1, c2, c3⟩ := ih hD1 b3 h
      exact ⟨c1, by omega, c3⟩
    · rw [if_neg e4] at h
      cases h
      exact ⟨hD1, by omega, b3⟩
theorem ok_meets (hD : DOK D) (hs : s < I.1) (h : qMeets I D s = .inl (D', e)) : DOK D' ∧ s < e ∧ e ≤ I.1 := by
  unfold qMeets at h
  have b1 := nx_gt hs
  have hD1 : DOK (D.1, fu (fu D.2.1 5 1) 4 1, D.2.2) := by
    obtain ⟨a1, a2, a3, a4, a5, a6, a7, a8, a9, a10, a11, a12, a13⟩ := hD
    refine ⟨a1, a2, a3, a4, a5, a6, a7, a8, a9, fu01 (fu01 a10), a11, a12, fun z => ?_⟩
    have : fu (fu D.2.1 5 1) 4 1 5 = 0 := z
    rw [fu_n (by omega), fu_s] at this; omega
  obtain ⟨c1, c2, c3⟩ := ok_mt 702 hD1 (nx_le (Nat.le_of_lt hs)) h
  exact ⟨c1, by omega, c3⟩
theorem isW_lt {j : Nat} (h : isW I j s) : s < I.1 := tK_lt (by rw [h.1]; omega)
theorem ok_an {v : Int} (hD : DOK D) (h0 : 0 ≤ v) (h2 : v ≤ 2) : DOK ((fu D.1.1 2 v, D.1.2), fu D.2.1 2 1, D.2.2) := by
  obtain ⟨a1, a2, a3, a4, a5, a6, a7, a8, a9, a10, a11, a12, a13⟩ := hD
  exact ⟨a1, a2, a3, ⟨h0, h2⟩, a5, a6, a7, a8, a9, fu01 a10, a11, a12, a13⟩
theorem ok_answer (hD : DOK D) (hs : s < I.1) (h : qAnswer I D s = .inl (D', e)) : DOK D' ∧ s < e ∧ e ≤ I.1 := by
  unfold qAnswer at h
  by_cases e1 : D.2.1 2 = 1
  · rw [if_pos e1] at h; cases h
  rw [if_neg e1] at h
  have b1 := nx_gt hs
  have fin : ∀ j, isW I j (nx I s) → s < nx I (nx I s) ∧ nx I (nx I s) ≤ I.1 := fun j hj => by
    have b2 := nx_gt (isW_lt hj)
    exact ⟨by omega, nx_le (Nat.le_of_lt (isW_lt hj))⟩
  by_cases w8 : isW I 8 (nx I s)
  · rw [pif_t w8] at h; cases h; exact ⟨ok_an hD (by omega) (by omega), fin 8 w8⟩
  rw [pif_f w8] at h
  by_cases w9 : isW I 9 (nx I s)
  · rw [pif_t w9] at h; cases h; exact ⟨ok_an hD (by omega) (by omega), fin 9 w9⟩
  rw [pif_f w9] at h
  by_cases w10 : isW I 10 (nx I s)
  · rw [pif_t w10] at h; cases h; exact ⟨ok_an hD (by omega) (by omega), fin 10 w10⟩
  rw [pif_f w10] at h
  cases h
theorem ok_stays (hD : DOK D) (hs : s < I.1) (h : qStays I D s = .inl (D', e)) : DOK D' ∧ s < e ∧ e ≤ I.1 := by
  obtain ⟨a1, a2, a3, a4, a5, a6, a7, a8, a9, a10, a11, a12, a13⟩ := hD
  unfold qStays at h
  by_cases e1 : sy D.1 = 1
  · rw [if_pos e1] at h; cases h
  rw [if_neg e1] at h
  cases h
  exact ⟨⟨a1, a2, a3, a4, Or.inr rfl, a6, a7, a8, a9, a10, a11, a12, a13⟩, nx_gt hs, nx_le (Nat.le_of_lt hs)⟩
theorem ok_keeps (hD : DOK D) (hs : s < I.1) (h : qKeeps I D s = .inl (D', e)) : DOK D' ∧ s < e ∧ e ≤ I.1 := by
  obtain ⟨a1, a2, a3, a4, a5, a6, a7, a8, a9, a10, a11, a12, a13⟩ := hD
  unfold qKeeps at h
  obtain ⟨g1, g2, g3, h⟩ := num_inv h
  by_cases e3 : ke D.1 (tN I (nx I s)).toNat ≠ -1
  · rw [if_pos e3] at h; cases h
  rw [if_neg e3] at h
  obtain ⟨g4, g5, g6, h⟩ := num_inv h
  cases h
  have b1 := nx_gt hs
  have b2 := nx_gt g1
  have b3 := nx_gt g4
  have b4 := nx_le (Nat.le_of_lt g4)
  refine ⟨⟨a1, a2, a3, a4, a5, a6, a7, a8, fun p hp => ?_, fu01 a10, a11, a12, fun z => ?_⟩, by omega, b4⟩
  · show fu D.1.2.2.2.2 _ _ p = -1 ∨ (0 ≤ fu D.1.2.2.2.2 _ _ p ∧ fu D.1.2.2.2.2 _ _ p < ha D.1)
    by_cases q : p = (tN I (nx I s)).toNat
    · rw [q, fu_s]; exact Or.inr ⟨g5, by omega⟩
    · rw [fu_n q]; exact a9 p hp
  · have : fu D.2.1 5 1 5 = 0 := z
    rw [fu_s] at this; omega
theorem ok_slip (hD : DOK D) (hs : s < I.1) (h : qSlip I D s = .inl (D', e)) : DOK D' ∧ s < e ∧ e ≤ I.1 := by
  obtain ⟨a1, a2, a3, a4, a5, a6, a7, a8, a9, a10, a11, a12, a13⟩ := hD
  unfold qSlip at h
  obtain ⟨g1, g2, g3, h⟩ := num_inv h
  by_cases e3 : D.2.2.2 (tN I (nx I s)).toNat = 1
  · rw [if_pos e3] at h; cases h
  rw [if_neg e3] at h
  obtain ⟨g4, g5, g6, h⟩ := num_inv h
  cases h
  have b1 := nx_gt hs
  have b2 := nx_gt g1
  have b3 := nx_gt g4
  have b4 := nx_le (Nat.le_of_lt g4)
  refine ⟨⟨a1, a2, a3, a4, a5, a6, fun j hj => ?_, a8, a9, fu01 a10, a11, fu01 a12, fun z => ?_⟩, by omega, b4⟩
  · show 1 ≤ fu D.1.2.2.1 _ _ j ∧ fu D.1.2.2.1 _ _ j ≤ 3
    by_cases q : j = (tN I (nx I s)).toNat
    · rw [q, fu_s]; exact ⟨g5, g6⟩
    · rw [fu_n q]; exact a7 j hj
  · have : fu D.2.1 5 1 5 = 0 := z
    rw [fu_s] at this; omega
theorem ok_c0 (hD : DOK D) (hs : s < I.1) (h : qC0 I D s = .inl (D', e)) : DOK D' ∧ s < e ∧ e ≤ I.1 := by
  unfold qC0 at h
  by_cases w0 : isW I 0 s
  · rw [pif_t w0] at h; exact ok_people hD hs h
  rw [pif_f w0] at h
  by_cases w1 : isW I 1 s
  · rw [pif_t w1] at h; exact ok_habits hD hs h
  rw [pif_f w1] at h
  by_cases w2 : isW I 2 s
  · rw [pif_t w2] at h; exact ok_worth hD hs h
  rw [pif_f w2] at h
  by_cases w3 : isW I 3 s
  · rw [pif_t w3] at h; exact ok_meets hD hs h
  rw [pif_f w3] at h
  by_cases w4 : isW I 4 s
  · rw [pif_t w4] at h; exact ok_answer hD hs h
  rw [pif_f w4] at h
  by_cases w5 : isW I 5 s
  · rw [pif_t w5] at h; exact ok_stays hD hs h
  rw [pif_f w5] at h
  by_cases w6 : isW I 6 s
  · rw [pif_t w6] at h; exact ok_keeps hD hs h
  rw [pif_f w6] at h
  by_cases w7 : isW I 7 s
  · rw [pif_t w7] at h; exact ok_slip hD hs h
  rw [pif_f w7] at h
  cases h
theorem ok_c (hD : DOK D) (hs : s < I.1) (h : qC I D s = .inl (D', e)) : DOK D' ∧ s < e ∧ e < I.1 := by
  unfold qC at h
  match hX : qC0 I D s, h with
  | .inl (D1, e1), h =>
    have h2 : fin_ I D1 e1 = .inl (D', e) := h
    unfold fin_ at h2
    by_cases q : tK I e1 = 3
    · rw [if_pos q] at h2
      cases h2
      obtain ⟨c1, c2, c3⟩ := ok_c0 hD hs hX
      exact ⟨c1, c2, tK_lt (by omega)⟩
    · rw [if_neg q] at h2; cases h2
  | .inr f, h => cases h
end Pure
