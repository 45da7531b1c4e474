/-! ===== what stands between two calls ===== -/
/-- the winners, by the valley alone -/
def DW (V : Vy) (home : Int → Int) (N : Nat) (w : Nat → Nat → Int) : Prop := ∀ a b : Nat, a < N → b < N → a ≠ b → ∀ F, DIST V (fun s => home s = (b : Int)) F → ∀ s, isSt V s → home s = (a : Int) → w a b = F s / 4096
def WIN (V : Vy) (b : Int) : Prop := ∃ (home : Int → Int) (N : Nat) (w : Nat → Nat → Int) (L : Int), HOME V home N ∧ N ≤ 12 ∧ DW V home N w ∧ WB (fun k x => MTS N k (fun _ _ => True) w x) N L b
def SHRT (V : Vy) (r : Int) : Prop := ∃ home n, HOME V home n ∧ SHV V home n r
def frN (V : Vy) (fr : Int) : Prop := (0 ≤ fr ∧ fr < 1024) ∧ ∀ p : Nat, tbit fr p = true ↔ (p : Int) < pe V ∧ ke V p = -1
/-- in the one land (U) all winners have h wherever the other has somebody free -/
def WON (U : Vy) (fr h : Int) : Prop := ∃ (home : Int → Int) (N : Nat) (b : Int), HOME U home N ∧ N ≤ 12 ∧ WIN U b ∧ ∀ s, isSt U s → 0 ≤ home s → tbit b (home s).toNat = true → ∀ p : Nat, (p : Int) < pe U → tbit fr p = true → hab U s p = h
def bindV (V : Vy) (m h : Int) : Vy := (V.1, V.2.1, V.2.2.1, V.2.2.2.1, fun p => if tbit m p = true then h else V.2.2.2.2 p)
def giveV (V : Vy) (h n : Int) : Vy := (V.1, fun j => if (j : Int) / 4 = h ∧ (j : Int) % 4 < V.1 1 then V.2.1 j + n else V.2.1 j, V.2.2)
def sub (m fr : Int) : Prop := (0 ≤ m ∧ m < 1024) ∧ ∀ p : Nat, tbit m p = true → tbit fr p = true
def BND (V : Vy) (h r : Int) : Prop := ∃ fr, frN V fr ∧ ((r = -1 ∧ ∀ m, sub m fr → ¬ WON (bindV V m h) fr h) ∨ (sub r fr ∧ WON (bindV V r h) fr h ∧ ∀ m, sub m fr → (bcnt m < bcnt r ∨ (bcnt m = bcnt r ∧ m < r)) → ¬ WON (bindV V m h) fr h))
def GFT (V : Vy) (h r : Int) : Prop := ∃ fr, frN V fr ∧ ((r = -1 ∧ ∀ n, 0 ≤ n → n ≤ 99 → ¬ WON (giveV V h n) fr h) ∨ (0 ≤ r ∧ r ≤ 99 ∧ WON (giveV V h r) fr h ∧ ∀ n, 0 ≤ n → n < r → ¬ WON (giveV V h n) fr h))
def IVV (V : Vy) (σ : St) : Prop := VOK V ∧ VA σ 0 V ∧ MT σ V ∧ σ 14 0 12 = an V ∧ σ 14 0 35 = -1 ∧ σ 10 0 4 = σ 14 0 13
def ITP (σ : St) : Prop := σ 8 0 1 = σ 14 0 2 ∧ (0 ≤ σ 8 0 1 ∧ σ 8 0 1 ≤ 700) ∧ ∀ k, k < 700 → σ 46 0 k = σ 66 0 k ∧ -128 ≤ σ 46 0 k ∧ σ 46 0 k ≤ 127
def IFT (σ : St) : Prop := σ 3 0 2 = σ 14 0 8 ∧ σ 3 0 3 = σ 14 0 9
def ILD (V : Vy) (σ : St) : Prop := LOK σ 0 V ∧ (σ 2 0 5 = 0 → σ 12 0 15 = -1) ∧ AIMOK σ V ∧ (σ 2 0 6 ≠ 0 → σ 2 0 5 ≠ 0 ∧ BT σ 0 V)
def ICC (V : Vy) (σ : St) : Prop := (σ 12 0 16 = -9 ∨ WIN V (σ 12 0 16)) ∧ (σ 12 0 17 = -9 ∨ SHRT V (σ 12 0 17)) ∧ ∀ h : Nat, (h : Int) < ha V → (σ 64 0 h = -9 ∨ BND V h (σ 64 0 h)) ∧ (σ 65 0 h = -9 ∨ GFT V h (σ 65 0 h))
def IMD (V : Vy) (σ : St) : Prop := MOK σ V
def IWY (σ : St) : Prop := (σ 14 0 55 = 0 ∧ σ 12 0 14 = -1) ∨ (σ 14 0 55 ≠ 0 ∧ 0 ≤ σ 12 0 14 ∧ σ 12 0 14 ≤ 1023 ∧ σ 12 0 14 = σ 14 0 54 ∧ ∀ k : Nat, (k : Int) ≤ σ 12 0 14 → σ 63 0 k = σ 91 0 k)
def ITR (σ : St) : Prop := (σ 14 0 62 = 0 ∧ σ 9 0 0 = 0) ∨ (σ 14 0 62 ≠ 0 ∧ σ 9 0 0 = σ 14 0 64 ∧ 0 ≤ σ 9 0 0 ∧ σ 9 0 0 ≤ 12 ∧ ∀ k : Nat, (k : Int) < σ 9 0 0 → σ 47 0 k = σ 97 0 k)
def IFL (V : Vy) (σ : St) : Prop := (σ 1 0 0 = 0 ∧ σ 14 0 71 = 0) ∨ (σ 1 0 0 ≠ 0 ∧ σ 14 0 71 ≠ 0 ∧ ∀ s : Nat, isSt V (s : Int) → σ 20 0 s = σ 101 0 s)
def IRN (σ : St) : Prop := (σ 11 0 0 = 0 ∧ σ 14 0 76 = 0) ∨ (σ 11 0 0 ≠ 0 ∧ σ 14 0 76 ≠ 0 ∧ σ 11 0 2 = σ 14 0 73 ∧ σ 11 0 3 = σ 14 0 74 ∧ σ 11 0 4 = σ 14 0 75 ∧ ∀ p, p < 10 → σ 62 0 p = σ 103 0 p)
def IJD (σ : St) : Prop := (σ 11 1 0 = 0 ∧ σ 14 0 81 = 0) ∨ (σ 11 1 0 ≠ 0 ∧ σ 14 0 81 ≠ 0 ∧ σ 11 1 2 = σ 14 0 78 ∧ σ 11 1 3 = σ 14 0 79 ∧ σ 11 1 1 = σ 14 0 80 ∧ (σ 11 1 5 = 0 ↔ σ 14 0 82 = 0))
def ISN (V : Vy) (σ : St) : Prop := σ 7 0 0 = σ 14 0 83 ∧ σ 7 0 1 = σ 14 0 84 ∧ σ 7 0 2 = σ 14 0 85 ∧ (0 ≤ σ 7 0 0 ∧ σ 7 0 0 ≤ 20) ∧ (0 ≤ σ 7 0 1 ∧ σ 7 0 1 ≤ 20) ∧ (0 ≤ σ 7 0 2 ∧ σ 7 0 2 ≤ 999) ∧ (∀ k : Nat, (k : Int) < σ 7 0 0 → σ 40 0 k = σ 105 0 k ∧ (0 ≤ σ 40 0 k ∧ σ 40 0 k ≤ 999) ∧ σ 41 0 k = σ 106 0 k ∧ σ 42 0 k = σ 104 0 k ∧ isSt V (σ 42 0 k)) ∧ (∀ k : Nat, (k : Int) < σ 7 0 1 → σ 43 0 k = σ 107 0 k ∧ σ 44 0 k = σ 109 0 k ∧ σ 45 0 k = σ 108 0 k ∧ isSt V (σ 45 0 k))
def INV (V : Vy) (σ : St) : Prop := IVV V σ ∧ ITP σ ∧ IFT σ ∧ ILD V σ ∧ ICC V σ ∧ IMD V σ ∧ IWY σ ∧ ITR σ ∧ IFL V σ ∧ IRN σ ∧ IJD σ ∧ ISN V σ
/-- cells of the class, of the model, that hold what is looked up again -/
def kC (c i j : Nat) : Prop := (i = 1 ∧ c ≠ 11 ∧ c < 66) ∨ (i = 0 ∧ (c = 2 ∨ c = 4 ∨ c = 5 ∨ c = 6 ∨ c = 21 ∨ (22 ≤ c ∧ c ≤ 39) ∨ (48 ≤ c ∧ c ≤ 53) ∨ c = 64 ∨ c = 65 ∨ (c = 12 ∧ 15 ≤ j ∧ j ≤ 17)))
def kM (c i j : Nat) : Prop := i = 0 ∧ ((c = 14 ∧ (j = 37 ∨ j = 50 ∨ j = 51 ∨ j = 65)) ∨ (78 ≤ c ∧ c ≤ 90) ∨ (92 ≤ c ∧ c ≤ 96) ∨ (98 ≤ c ∧ c ≤ 100) ∨ c = 102)
section Inv
variable {σ τ : St} {V : Vy} {P : Nat → Nat → Nat → Prop}
theorem IVV.fr (h : IVV V σ) (f : FR P σ τ) (hP : ∀ c i j, i = 0 → c = 10 ∨ (54 ≤ c ∧ c ≤ 61) ∨ (c = 14 ∧ ((10 ≤ j ∧ j ≤ 13) ∨ j = 17 ∨ j = 35 ∨ j = 36)) ∨ c = 67 ∨ c = 69 ∨ c = 71 ∨ c = 73 ∨ c = 77 → ¬ P c i j) : IVV V τ := by
  have g : ∀ c j, c = 10 ∨ (54 ≤ c ∧ c ≤ 61) ∨ (c = 14 ∧ ((10 ≤ j ∧ j ≤ 13) ∨ j = 17 ∨ j = 35 ∨ j = 36)) ∨ c = 67 ∨ c = 69 ∨ c = 71 ∨ c = 73 ∨ c = 77 → τ c 0 j = σ c 0 j := fun c j q => f c 0 j (hP c 0 j rfl q)
  obtain ⟨h1, h2, h3, h4, h5, h6⟩ := h
  exact ⟨h1, h2.fr f (fun c k hc => hP c 0 k rfl (by omega)), h3.fr f (fun c k hc => hP c 0 k rfl (by omega)), by rw [g 14 12 (by omega)]; exact h4, by rw [g 14 35 (by omega)]; exact h5, by rw [g 14 13 (by omega), g 10 4 (by omega)]; exact h6⟩
theorem ITP.fr (h : ITP σ) (f : FR P σ τ) (hP : ∀ c i j, i = 0 → c = 8 ∨ c = 46 ∨ (c = 14 ∧ j = 2) ∨ c = 66 → ¬ P c i j) : ITP τ := by
  have g : ∀ c j, c = 8 ∨ c = 46 ∨ (c = 14 ∧ j = 2) ∨ c = 66 → τ c 0 j = σ c 0 j := fun c j q => f c 0 j (hP c 0 j rfl q)
  unfold ITP
  rw [g 8 1 (by omega), g 14 2 (by omega)]
  exact ⟨h.1, h.2.1, fun k hk => by rw [g 46 k (by omega), g 66 k (by omega)]; exact h.2.2 k hk⟩
theorem IFT.fr (h : IFT σ) (f : FR P σ τ) (hP : ∀ c i j, i = 0 → (c = 3 ∧ (j = 2 ∨ j = 3)) ∨ (c = 14 ∧ (j = 8 ∨ j = 9)) → ¬ P c i j) : IFT τ := by
  have g : ∀ c j, (c = 3 ∧ (j = 2 ∨ j = 3)) ∨ (c = 14 ∧ (j = 8 ∨ j = 9)) → τ c 0 j = σ c 0 j := fun c j q => f c 0 j (hP c 0 j rfl q)
  unfold IFT
  rw [g 3 2 (by omega), g 3 3 (by omega), g 14 8 (by omega), g 14 9 (by omega)]
  exact h
theorem LOK.fr {i : Nat} (h : LOK σ i V) (f : FR P σ τ) (hP : ∀ c j, (c = 2 ∧ (j = 4 ∨ j = 5)) ∨ (c = 5 ∧ j = 0) ∨ c = 23 ∨ (27 ≤ c ∧ c ≤ 31) → ¬ P c i j) : LOK τ i V := by
  have g : ∀ c j, (c = 2 ∧ (j = 4 ∨ j = 5)) ∨ (c = 5 ∧ j = 0) ∨ c = 23 ∨ (27 ≤ c ∧ c ≤ 31) → τ c i j = σ c i j := fun c j q => f c i j (hP c j q)
  refine ⟨fun z => ?_, fun z => ?_⟩
  · rw [g 2 4 (by omega)] at z
    exact (h.1 z).fr f (fun k => hP 23 k (by omega))
  · rw [g 2 5 (by omega)] at z
    exact ⟨(h.2 z).1.fr f (fun c k hc => hP c k (by omega)), (h.2 z).2.fr f (fun c k hc => hP c k (by omega))⟩
theorem BT.fr {i : Nat} (h : BT σ i V) (f : FR P σ τ) (hP : ∀ c j, c = 22 ∨ c = 27 ∨ (c = 5 ∧ j = 0) → ¬ P c i j) : BT τ i V := by
  have g : ∀ c j, c = 22 ∨ c = 27 ∨ (c = 5 ∧ j = 0) → τ c i j = σ c i j := fun c j q => f c i j (hP c j q)
  have eh : hm τ i = hm σ i := by funext u; exact g 27 _ (by omega)
  intro a b
  rw [eh, g 5 0 (by omega), g 22 _ (by omega)]
  exact h a b
theorem ILD.fr (h : ILD V σ) (f : FR P σ τ) (hP : ∀ c i j, (i = 0 ∧ (c = 2 ∨ c = 5 ∨ c = 22 ∨ c = 23 ∨ (27 ≤ c ∧ c ≤ 31) ∨ (c = 12 ∧ j = 15))) ∨ (c = 37 ∧ i = 1) → ¬ P c i j) : ILD V τ := by
  have g : ∀ c j, c = 2 ∨ (c = 12 ∧ j = 15) → τ c 0 j = σ c 0 j := fun c j q => f c 0 j (hP c 0 j (by omega))
  obtain ⟨h1, h2, h3, h4⟩ := h
  refine ⟨h1.fr f (fun c j hc => hP c 0 j (by omega)), ?_, h3.fr f ⟨hP _ _ _ (by omega), fun k => hP _ _ _ (by omega), fun k => hP _ _ _ (by omega)⟩, ?_⟩
  · rw [g 2 5 (by omega), g 12 15 (by omega)]; exact h2
  · rw [g 2 6 (by omega), g 2 5 (by omega)]
    exact fun z => ⟨(h4 z).1, (h4 z).2.fr f (fun c j hc => hP c 0 j (by omega))⟩
theorem ICC.fr (h : ICC V σ) (f : FR P σ τ) (hP : ∀ c i j, i = 0 → (c = 12 ∧ (j = 16 ∨ j = 17)) ∨ c = 64 ∨ c = 65 → ¬ P c i j) : ICC V τ := by
  have g : ∀ c j, (c = 12 ∧ (j = 16 ∨ j = 17)) ∨ c = 64 ∨ c = 65 → τ c 0 j = σ c 0 j := fun c j q => f c 0 j (hP c 0 j rfl q)
  unfold ICC
  rw [g 12 16 (by omega), g 12 17 (by omega)]
  exact ⟨h.1, h.2.1, fun k hk => by rw [g 64 k (by omega), g 65 k (by omega)]; exact h.2.2 k hk⟩
theorem IMD.fr (h : IMD V σ) (f : FR P σ τ) (hP : ∀ c i j, i = 0 → (c = 14 ∧ (j = 37 ∨ j = 51)) ∨ c = 78 ∨ (83 ≤ c ∧ c ≤ 88) → ¬ P c i j) : IMD V τ := by
  have g : ∀ c j, (c = 14 ∧ (j = 37 ∨ j = 51)) ∨ c = 78 ∨ (83 ≤ c ∧ c ≤ 88) → τ c 0 j = σ c 0 j := fun c j q => f c 0 j (hP c 0 j rfl q)
  intro z
  rw [g 14 37 (by omega)] at z
  exact ⟨(h z).1.fr f (fun c j hc => hP c 0 j rfl (by omega)), (h z).2.fr f (fun c j hc => hP c 0 j rfl (by omega))⟩
theorem IWY.fr (h : IWY σ) (f : FR P σ τ) (hP : ∀ c i j, i = 0 → (c = 14 ∧ (j = 54 ∨ j = 55)) ∨ (c = 12 ∧ j = 14) ∨ c = 63 ∨ c = 91 → ¬ P c i j) : IWY τ := by
  have g : ∀ c j, (c = 14 ∧ (j = 54 ∨ j = 55)) ∨ (c = 12 ∧ j = 14) ∨ c = 63 ∨ c = 91 → τ c 0 j = σ c 0 j := fun c j q => f c 0 j (hP c 0 j rfl q)
  unfold IWY
  rw [g 14 54 (by omega), g 14 55 (by omega), g 12 14 (by omega)]
  exact h.imp id (fun ⟨a, b, c, d, e⟩ => ⟨a, b, c, d, fun k hk => by rw [g 63 k (by omega), g 91 k (by omega)]; exact e k hk⟩)
theorem ITR.fr (h : ITR σ) (f : FR P σ τ) (hP : ∀ c i j, i = 0 → (c = 14 ∧ (j = 62 ∨ j = 64)) ∨ (c = 9 ∧ j = 0) ∨ c = 47 ∨ c = 97 → ¬ P c i j) : ITR τ := by
  have g : ∀ c j, (c = 14 ∧ (j = 62 ∨ j = 64)) ∨ (c = 9 ∧ j = 0) ∨ c = 47 ∨ c = 97 → τ c 0 j = σ c 0 j := fun c j q => f c 0 j (hP c 0 j rfl q)
  unfold ITR
  rw [g 14 62 (by omega), g 14 64 (by omega), g 9 0 (by omega)]
  exact h.imp id (fun ⟨a, b, c, d, e⟩ => ⟨a, b, c, d, fun k hk => by rw [g 47 k (by omega), g 97 k (by omega)]; exact e k hk⟩)
theorem IFL.fr (h : IFL V σ) (f : FR P σ τ) (hP : ∀ c i j, i = 0 → (c = 14 ∧ j = 71) ∨ (c = 1 ∧ j = 0) ∨ c = 20 ∨ c = 101 → ¬ P c i j) : IFL V τ := by
  have g : ∀ c j, (c = 14 ∧ j = 71) ∨ (c = 1 ∧ j = 0) ∨ c = 20 ∨ c = 101 → τ c 0 j = σ c 0 j := fun c j q => f c 0 j (hP c 0 j rfl q)
  unfold IFL
  rw [g 14 71 (by omega), g 1 0 (by omega)]
  exact h.imp id (fun ⟨a, b, c⟩ => ⟨a, b, fun k hk => by rw [g 20 k (by omega), g 101 k (by omega)]; exact c k hk⟩)
theorem IRN.fr (h : IRN σ) (f : FR P σ τ) (hP : ∀ c i j, i = 0 → (c = 14 ∧ (73 ≤ j ∧ j ≤ 76)) ∨ c = 11 ∨ c = 62 ∨ c = 103 → ¬ P c i j) : IRN τ := by
  have g : ∀ c j, (c = 14 ∧ (73 ≤ j ∧ j ≤ 76)) ∨ c = 11 ∨ c = 62 ∨ c = 103 → τ c 0 j = σ c 0 j := fun c j q => f c 0 j (hP c 0 j rfl q)
  unfold IRN
  rw [g 14 73 (by omega), g 14 74 (by omega), g 14 75 (by omega), g 14 76 (by omega), g 11 0 (by omega), g 11 2 (by omega), g 11 3 (by omega), g 11 4 (by omega)]
  exact h.imp id (fun ⟨a, b, c, d, e, q⟩ => ⟨a, b, c, d, e, fun k hk => by rw [g 62 k (by omega), g 103 k (by omega)]; exact q k hk⟩)
theorem IJD.fr (h : IJD σ) (f : FR P σ τ) (hP : ∀ c i j, (c = 14 ∧ i = 0 ∧ (78 ≤ j ∧ j ≤ 82)) ∨ (c = 11 ∧ i = 1) → ¬ P c i j) : IJD τ := by
  have g : ∀ c i j, (c = 14 ∧ i = 0 ∧ (78 ≤ j ∧ j ≤ 82)) ∨ (c = 11 ∧ i = 1) → τ c i j = σ c i j := fun c i j q => f c i j (hP c i j q)
  unfold IJD
  rw [g 14 0 78 (by omega), g 14 0 79 (by omega), g 14 0 80 (by omega), g 14 0 81 (by omega), g 14 0 82 (by omega), g 11 1 0 (by omega), g 11 1 1 (by omega), g 11 1 2 (by omega), g 11 1 3 (by omega), g 11 1 5 (by omega)]
  exact h
theorem ISN.fr (h : ISN V σ) (f : FR P σ τ) (hP : ∀ c i j, i = 0 → (c = 14 ∧ (83 ≤ j ∧ j ≤ 85)) ∨ (c = 7 ∧ j ≤ 2) ∨ (40 ≤ c ∧ c ≤ 45) ∨ (104 ≤ c ∧ c ≤ 109) → ¬ P c i j) : ISN V τ := by
  have g : ∀ c j, (c = 14 ∧ (83 ≤ j ∧ j ≤ 85)) ∨ (c = 7 ∧ j ≤ 2) ∨ (40 ≤ c ∧ c ≤ 45) ∨ (104 ≤ c ∧ c ≤ 109) → τ c 0 j = σ c 0 j := fun c j q => f c 0 j (hP c 0 j rfl q)
  unfold ISN
  rw [g 14 83 (by omega), g 14 84 (by omega), g 14 85 (by omega), g 7 0 (by omega), g 7 1 (by omega), g 7 2 (by omega)]
  obtain ⟨a, b, c, d, e, q, r, s⟩ := h
  refine ⟨a, b, c, d, e, q, fun k hk => ?_, fun k hk => ?_⟩
  · rw [g 40 k (by omega), g 41 k (by omega), g 42 k (by omega), g 104 k (by omega), g 105 k (by omega), g 106 k (by omega)]; exact r k hk
  · rw [g 43 k (by omega), g 44 k (by omega), g 45 k (by omega), g 107 k (by omega), g 108 k (by omega), g 109 k (by omega)]; exact s k hk
/-- only what is looked up again has changed -/
theorem INV.ca (h : INV V σ) (f : FR (fun c i j => kC c i j ∨ kM c i j) σ τ) (h1 : ILD V τ) (h2 : ICC V τ) (h3 : IMD V τ) : INV V τ := by
  obtain ⟨a1, a2, a3, a4, a5, a6, a7, a8, a9, a10, a11, a12⟩ := h
  refine ⟨a1.fr f ?_, a2.fr f ?_, a3.fr f ?_, h1, h2, h3, a7.fr f ?_, a8.fr f ?_, a9.fr f ?_, a10.fr f ?_, a11.fr f ?_, a12.fr f ?_⟩ <;> (unfold kC kM; omega)
/-- both answer the same, and all stands as before -/
def PRC (MC MM : MI) (lc lm : List AV) (σ : St) : Prop := WP MC 0 lc [] σ (fun r τ => ∃ x, r = .inl (some (vI x)) ∧ WP MM 0 lm [] τ (fun r' υ => r' = .inl (some (vI x)) ∧ ∃ V, INV V υ))
theorem PRC.mk {MC MM : MI} {lc lm : List AV} {R R' : Int → Prop} (hI : INV V σ) (hc : ∀ Q, (∀ τ x, FR kC σ τ → ILD V τ → ICC V τ → R x → Q (.inl (some (vI x))) τ) → WP MC 0 lc [] σ Q) (hm : ∀ τ Q, IVV V τ → IMD V τ → (∀ υ x, FR kM τ υ → IMD V υ → R' x → Q (.inl (some (vI x))) υ) → WP MM 0 lm [] τ Q) (hu : ∀ x y, R x → R' y → x = y) : PRC MC MM lc lm σ := by
  refine hc _ (fun τ x f1 h1 h2 hR => ⟨x, rfl, hm τ _ (hI.1.fr f1 (by unfold kC; omega)) (hI.2.2.2.2.2.1.fr f1 (by unfold kC; omega)) (fun υ y f2 h3 hR' => ⟨by rw [hu x y hR hR'], V, hI.ca ((f1.wk (fun c i j z => Or.inl z)).tr (f2.wk (fun c i j z => Or.inr z))) (h1.fr f2 (by unfold kM; omega)) (h2.fr f2 (by unfold kM; omega)) h3⟩)⟩)
end Inv
