/-! ===== valleys: people, habits, answer, stays; gets; slips; meets; keeps ===== -/
abbrev Vy : Type := (Nat → Int) × (Nat → Int) × (Nat → Int) × (Nat → Int) × (Nat → Int)
def pe (V : Vy) : Int := V.1 0
def ha (V : Vy) : Int := V.1 1
def an (V : Vy) : Int := V.1 2
def sy (V : Vy) : Int := V.1 3
def ge (V : Vy) (j : Nat) : Int := V.2.1 j
def sl (V : Vy) (j : Nat) : Int := V.2.2.1 j
def me (V : Vy) (j : Nat) : Int := V.2.2.2.1 j
def ke (V : Vy) (j : Nat) : Int := V.2.2.2.2 j
def cod (V : Vy) : Int := ha V ^ (pe V).toNat
def hab (V : Vy) (s : Int) (p : Nat) : Int := s / ha V ^ p % ha V
def wi (V : Vy) (s : Int) (p : Nat) (h : Int) : Int := s + (h - hab V s p) * ha V ^ p
def inC (V : Vy) (s : Int) : Prop := 0 ≤ s ∧ s < cod V
def isSt (V : Vy) (s : Int) : Prop := inC V s ∧ ∀ p : Nat, (p : Int) < pe V → ke V p ≠ -1 → hab V s p = ke V p
def VOK (V : Vy) : Prop := (2 ≤ pe V ∧ pe V ≤ 10) ∧ (2 ≤ ha V ∧ ha V ≤ 4) ∧ cod V ≤ 1024 ∧ (0 ≤ an V ∧ an V ≤ 2) ∧ (sy V = 0 ∨ sy V = 1) ∧ (∀ j, j < 16 → 0 ≤ ge V j ∧ ge V j ≤ 198) ∧ (∀ j, j < 4 → 1 ≤ sl V j ∧ sl V j ≤ 3) ∧ (∀ j, j < 10 → 0 ≤ me V j ∧ me V j < 1024) ∧ ∀ p : Nat, (p : Int) < pe V → ke V p = -1 ∨ (0 ≤ ke V p ∧ ke V p < ha V)
section Val
variable {V : Vy}
theorem VOK.pe (h : VOK V) : 2 ≤ pe V ∧ pe V ≤ 10 := h.1
theorem VOK.ha (h : VOK V) : 2 ≤ ha V ∧ ha V ≤ 4 := h.2.1
theorem VOK.cod (h : VOK V) : cod V ≤ 1024 := h.2.2.1
theorem VOK.an (h : VOK V) : 0 ≤ an V ∧ an V ≤ 2 := h.2.2.2.1
theorem VOK.sy (h : VOK V) : sy V = 0 ∨ sy V = 1 := h.2.2.2.2.1
theorem VOK.ge (h : VOK V) : ∀ j, j < 16 → 0 ≤ ge V j ∧ ge V j ≤ 198 := h.2.2.2.2.2.1
theorem VOK.sl (h : VOK V) : ∀ j, j < 4 → 1 ≤ sl V j ∧ sl V j ≤ 3 := h.2.2.2.2.2.2.1
theorem VOK.me (h : VOK V) : ∀ j, j < 10 → 0 ≤ me V j ∧ me V j < 1024 := h.2.2.2.2.2.2.2.1
theorem VOK.ke (h : VOK V) : ∀ p : Nat, (p : Int) < Jvm.Pilot.CCustomValleyLaw_law_r4824_d123a9.pe V → ke V p = -1 ∨ (0 ≤ ke V p ∧ ke V p < Jvm.Pilot.CCustomValleyLaw_law_r4824_d123a9.ha V) := h.2.2.2.2.2.2.2.2
theorem pw_pos (h : VOK V) (p : Nat) : 0 < ha V ^ p := Int.pow_pos (by have := h.ha; omega)
theorem hN (h : VOK V) : ∃ H : Nat, ha V = (H : Int) ∧ 2 ≤ H ∧ H ≤ 4 := ⟨(ha V).toNat, by have := h.ha; omega, by have := h.ha; omega, by have := h.ha; omega⟩
theorem hab_bd (h : VOK V) (s : Int) (p : Nat) : 0 ≤ hab V s p ∧ hab V s p < ha V := by
  have := h.ha
  exact ⟨Int.emod_nonneg _ (by omega), Int.emod_lt_of_pos _ (by omega)⟩
theorem hab_n {H n : Nat} (hH : ha V = (H : Int)) (p : Nat) : hab V (n : Int) p = ((dg H n p : Nat) : Int) := by
  unfold hab dg
  rw [hH]
  push_cast
  rfl
theorem wi_n {H n x : Nat} (hH : ha V = (H : Int)) (p : Nat) : wi V (n : Int) p (x : Int) = ((wiN H n p x : Nat) : Int) := by
  have e : ((n : Nat) : Int) = ((n / H ^ p / H : Nat) : Int) * (H : Int) * ((H ^ p : Nat) : Int) + ((dg H n p : Nat) : Int) * ((H ^ p : Nat) : Int) + ((n % H ^ p : Nat) : Int) := by
    have h1 := Nat.div_add_mod' n (H ^ p)
    have h2 := Nat.div_add_mod' (n / H ^ p) H
    have h3 : n = (n / H ^ p / H * H + n / H ^ p % H) * H ^ p + n % H ^ p := by rw [h2, h1]
    rw [Nat.add_mul] at h3
    unfold dg
    exact_mod_cast h3
  unfold wi
  rw [hab_n hH, hH]
  have e2 : ((wiN H n p x : Nat) : Int) = ((n / H ^ p / H : Nat) : Int) * (H : Int) * ((H ^ p : Nat) : Int) + (x : Int) * ((H ^ p : Nat) : Int) + ((n % H ^ p : Nat) : Int) := by
    unfold wiN
    rw [Nat.add_mul]
    push_cast
    rfl
  rw [e2, Int.sub_mul]
  have e3 : ((H : Int) ^ p) = ((H ^ p : Nat) : Int) := by push_cast; rfl
  rw [e3]
  omega
theorem cod_n {H : Nat} (hH : ha V = (H : Int)) : cod V = ((H ^ (pe V).toNat : Nat) : Int) := by
  unfold cod
  rw [hH]
  push_cast
  rfl
theorem hab_wi_same (hV : VOK V) {s : Int} (hs : 0 ≤ s) {p : Nat} {x : Int} (h0 : 0 ≤ x) (h1 : x < ha V) : hab V (wi V s p x) p = x := by
  obtain ⟨H, hH, hb, -⟩ := hN hV
  obtain ⟨n, rfl⟩ : ∃ n : Nat, s = n := ⟨s.toNat, by omega⟩
  obtain ⟨y, rfl⟩ : ∃ n : Nat, x = n := ⟨x.toNat, by omega⟩
  rw [wi_n hH, hab_n hH, dg_wi_same (by omega)]
theorem hab_wi_ne (hV : VOK V) {s : Int} (hs : 0 ≤ s) {p q : Nat} {x : Int} (h0 : 0 ≤ x) (h1 : x < ha V) (hq : q ≠ p) : hab V (wi V s p x) q = hab V s q := by
  obtain ⟨H, hH, hb, -⟩ := hN hV
  obtain ⟨n, rfl⟩ : ∃ n : Nat, s = n := ⟨s.toNat, by omega⟩
  obtain ⟨y, rfl⟩ : ∃ n : Nat, x = n := ⟨x.toNat, by omega⟩
  rw [wi_n hH, hab_n hH, hab_n hH, dg_wi_ne (by omega) hq]
theorem wi_in (hV : VOK V) {s : Int} (hs : inC V s) {p : Nat} (hp : (p : Int) < pe V) {x : Int} (h0 : 0 ≤ x) (h1 : x < ha V) : inC V (wi V s p x) := by
  obtain ⟨H, hH, hb, -⟩ := hN hV
  unfold inC at hs ⊢
  obtain ⟨n, rfl⟩ : ∃ n : Nat, s = n := ⟨s.toNat, by omega⟩
  obtain ⟨y, rfl⟩ : ∃ n : Nat, x = n := ⟨x.toNat, by omega⟩
  rw [cod_n hH] at hs ⊢
  rw [wi_n hH]
  have h2 : wiN H n p y < H ^ (pe V).toNat := wi_lt (by omega) (by omega) (by omega)
  omega
theorem wi_self (s : Int) (p : Nat) : wi V s p (hab V s p) = s := by
  unfold wi
  rw [Int.sub_self, Int.zero_mul, Int.add_zero]
theorem wi_wi (hV : VOK V) {s : Int} (hs : 0 ≤ s) {p : Nat} {x y : Int} (h0 : 0 ≤ x) (h1 : x < ha V) : wi V (wi V s p x) p y = wi V s p y := by
  have e := hab_wi_same hV hs (p := p) h0 h1
  show wi V s p x + (y - hab V (wi V s p x) p) * ha V ^ p = _
  rw [e]
  unfold wi
  rw [Int.sub_mul, Int.sub_mul, Int.sub_mul]
  omega
theorem wi_inj (hV : VOK V) {s : Int} {p : Nat} {x y : Int} (h : wi V s p x = wi V s p y) : x = y := by
  unfold wi at h
  have h2 : (x - hab V s p) * ha V ^ p = (y - hab V s p) * ha V ^ p := by omega
  have := Int.eq_of_mul_eq_mul_right (Int.ne_of_gt (pw_pos hV p)) h2
  omega
theorem st_ext (hV : VOK V) {s t : Int} (hs : inC V s) (ht : inC V t) (h : ∀ p : Nat, (p : Int) < pe V → hab V s p = hab V t p) : s = t := by
  obtain ⟨H, hH, hb, -⟩ := hN hV
  unfold inC at hs ht
  rw [cod_n hH] at hs ht
  obtain ⟨n, rfl⟩ : ∃ n : Nat, s = n := ⟨s.toNat, by omega⟩
  obtain ⟨m, rfl⟩ : ∃ n : Nat, t = n := ⟨t.toNat, by omega⟩
  have := dg_ext (H := H) (by omega) (pe V).toNat n m (by omega) (by omega) (fun p hp => by
    have := h p (by omega)
    rw [hab_n hH, hab_n hH] at this
    omega)
  rw [this]
theorem isSt_wi (hV : VOK V) {s : Int} (hs : isSt V s) {p : Nat} (hp : (p : Int) < pe V) (hk : ke V p = -1) {x : Int} (h0 : 0 ≤ x) (h1 : x < ha V) : isSt V (wi V s p x) := by
  refine ⟨wi_in hV hs.1 hp h0 h1, fun q hq hkq => ?_⟩
  have hqp : q ≠ p := by rintro rfl; exact hkq hk
  rw [hab_wi_ne hV hs.1.1 h0 h1 hqp]
  exact hs.2 q hq hkq
theorem cod_pos (hV : VOK V) : 0 < cod V := pw_pos hV _
theorem st_bd (hV : VOK V) {s : Int} (hs : isSt V s) : 0 ≤ s ∧ s < 1024 := by
  have := hV.cod
  have := hs.1
  unfold inC at this
  omega
end Val
/-! ===== bits ===== -/
def tbit (m : Int) (q : Nat) : Bool := m.toNat.testBit q
theorem band_all : ∀ m : Fin 1024, ∀ q : Fin 10, band (shr ((m.val : Nat) : Int) ((q.val : Nat) : Int)) 1 = if m.val.testBit q.val = true then 1 else 0 := by decide +kernel
theorem band_tb {m q : Int} (h0 : 0 ≤ m) (h1 : m < 1024) (h2 : 0 ≤ q) (h3 : q < 10) : band (shr m q) 1 = if m.toNat.testBit q.toNat = true then 1 else 0 := by
  have := band_all ⟨m.toNat, by omega⟩ ⟨q.toNat, by omega⟩
  simp only [Int.toNat_of_nonneg h0, Int.toNat_of_nonneg h2] at this
  exact this
theorem band_ne {m q : Int} (h0 : 0 ≤ m) (h1 : m < 1024) (h2 : 0 ≤ q) (h3 : q < 10) : band (shr m q) 1 ≠ 0 ↔ tbit m q.toNat := by
  rw [band_tb h0 h1 h2 h3]
  unfold tbit
  split <;> simp_all
theorem band_eq1 {m q : Int} (h0 : 0 ≤ m) (h1 : m < 1024) (h2 : 0 ≤ q) (h3 : q < 10) : band (shr m q) 1 = 1 ↔ tbit m q.toNat := by
  rw [band_tb h0 h1 h2 h3]
  unfold tbit
  split <;> simp_all
theorem band_eq0 {m q : Int} (h0 : 0 ≤ m) (h1 : m < 1024) (h2 : 0 ≤ q) (h3 : q < 10) : band (shr m q) 1 = 0 ↔ ¬ tbit m q.toNat := by
  rw [band_tb h0 h1 h2 h3]
  unfold tbit
  split <;> simp_all
theorem shl1_all : ∀ q : Fin 12, shl 1 ((q.val : Nat) : Int) = 2 ^ q.val := by decide +kernel
theorem shl1 {q : Int} (h2 : 0 ≤ q) (h3 : q < 12) : shl 1 q = 2 ^ q.toNat := by
  have := shl1_all ⟨q.toNat, by omega⟩
  simp only [Int.toNat_of_nonneg h2] at this
  exact this
theorem ofN {n : Nat} : Int32.ofInt (n : Int) = nI n := rfl
theorem bor_n {a b : Nat} (h : a ||| b < 2 ^ 31) : bor (a : Int) (b : Int) = ((a ||| b : Nat) : Int) := by
  unfold bor
  rw [ofN, ofN]
  have e : nI a ||| nI b = nI (a ||| b) := by
    apply Int32.toBitVec_inj.1
    show BitVec.ofNat 32 a ||| BitVec.ofNat 32 b = BitVec.ofNat 32 (a ||| b)
    apply BitVec.eq_of_getLsbD_eq
    intro i hi
    simp [hi]
  rw [e, nI_toInt h]
theorem band_n {a b : Nat} (h : a &&& b < 2 ^ 31) : band (a : Int) (b : Int) = ((a &&& b : Nat) : Int) := by
  unfold band
  rw [ofN, ofN]
  have e : nI a &&& nI b = nI (a &&& b) := by
    apply Int32.toBitVec_inj.1
    show BitVec.ofNat 32 a &&& BitVec.ofNat 32 b = BitVec.ofNat 32 (a &&& b)
    apply BitVec.eq_of_getLsbD_eq
    intro i hi
    simp [hi]
  rw [e, nI_toInt h]
/-- a set with one more -/
def sadd (m : Int) (q : Nat) : Int := ((m.toNat ||| 2 ^ q : Nat) : Int)
theorem or_lt {a q n : Nat} (ha : a < 2 ^ n) (hq : q < n) : a ||| 2 ^ q < 2 ^ n := Nat.or_lt_two_pow ha (Nat.pow_lt_pow_right (by omega) hq)
theorem bor1 {m q : Int} (h0 : 0 ≤ m) (h1 : m < 4096) (h2 : 0 ≤ q) (h3 : q < 12) : bor m (shl 1 q) = sadd m q.toNat := by
  rw [shl1 h2 h3]
  obtain ⟨n, rfl⟩ : ∃ n : Nat, m = n := ⟨m.toNat, by omega⟩
  have e : ((2 : Int) ^ q.toNat) = ((2 ^ q.toNat : Nat) : Int) := by push_cast; rfl
  have hb : n ||| 2 ^ q.toNat < 2 ^ 12 := or_lt (by omega) (by omega)
  rw [e, bor_n (by omega)]
  rfl
theorem sadd_bit (m : Int) (q r : Nat) : tbit (sadd m q) r ↔ tbit m r ∨ r = q := by
  unfold tbit sadd
  rw [Int.toNat_natCast, Nat.testBit_or, Nat.testBit_two_pow]
  simp only [Bool.or_eq_true, decide_eq_true_eq]
  constructor
  · rintro (h | h)
    · exact Or.inl h
    · exact Or.inr h.symm
  · rintro (h | h)
    · exact Or.inl h
    · exact Or.inr h.symm
theorem sadd_bd {m : Int} {q n : Nat} (h1 : m.toNat < 2 ^ n) (hq : q < n) : 0 ≤ sadd m q ∧ (sadd m q).toNat < 2 ^ n := by
  unfold sadd
  refine ⟨by omega, ?_⟩
  rw [Int.toNat_natCast]
  exact or_lt h1 hq
theorem bits_ext {a b : Int} (ha : 0 ≤ a) (hb : 0 ≤ b) (h : ∀ r, tbit a r ↔ tbit b r) : a = b := by
  have : a.toNat = b.toNat := by
    apply Nat.eq_of_testBit_eq
    intro i
    have := h i
    unfold tbit at this
    cases h1 : a.toNat.testBit i <;> cases h2 : b.toNat.testBit i <;> simp_all
  omega
theorem tbit_lt {m : Int} {r n : Nat} (h : m.toNat < 2 ^ n) (hr : tbit m r) : r < n := by
  unfold tbit at hr
  apply Classical.byContradiction
  intro hn
  have : m.toNat < 2 ^ r := Nat.lt_of_lt_of_le h (Nat.pow_le_pow_right (by omega) (by omega))
  rw [Nat.testBit_lt_two_pow this] at hr
  cases hr
theorem tbit_0 (r : Nat) : ¬ tbit 0 r := by
  unfold tbit
  simp
theorem tbit_pw (q r : Nat) : tbit (2 ^ q) r ↔ r = q := by
  have e : ((2 : Int) ^ q) = sadd 0 q := by unfold sadd; simp
  rw [e, sadd_bit]
  simp [tbit_0]
/-! ===== sums ===== -/
def sm (f : Nat → Int) : Nat → Int
  | 0 => 0
  | n + 1 => sm f n + f n
theorem sm_congr {f g : Nat → Int} : ∀ {n : Nat}, (∀ k, k < n → f k = g k) → sm f n = sm g n := by
  intro n
  induction n with
  | zero => intro _; rfl
  | succ n ih => intro h; rw [sm, sm, ih (fun k hk => h k (by omega)), h n (by omega)]
theorem sm_bd {f : Nat → Int} {b : Int} (hb : 0 ≤ b) : ∀ {n : Nat}, (∀ k, k < n → 0 ≤ f k ∧ f k ≤ b) → 0 ≤ sm f n ∧ sm f n ≤ n * b := by
  intro n
  induction n with
  | zero => intro _; simp [sm]
  | succ n ih =>
    intro h
    have h1 := ih (fun k hk => h k (by omega))
    have h2 := h n (by omega)
    have e : ((n + 1 : Nat) : Int) * b = n * b + b := by push_cast; rw [Int.add_mul, Int.one_mul]
    rw [sm, e]
    omega
theorem sm_add (f g : Nat → Int) : ∀ n, sm (fun k => f k + g k) n = sm f n + sm g n := by
  intro n
  induction n with
  | zero => rfl
  | succ n ih => simp only [sm]; rw [ih]; omega
theorem sm_0 : ∀ n, sm (fun _ => 0) n = 0 := by
  intro n
  induction n with
  | zero => rfl
  | succ n ih => simp only [sm]; rw [ih]; rfl
theorem sm_one {f : Nat → Int} {k n : Nat} (hk : k < n) (h : ∀ j, j < n → j ≠ k → f j = 0) : sm f n = f k := by
  induction n with
  | zero => omega
  | succ n ih =>
    rw [sm]
    by_cases e : k = n
    · subst e
      have : sm f k = sm (fun _ => 0) k := sm_congr (fun j hj => h j (by omega) (by omega))
      rw [this, sm_0]; omega
    · rw [ih (by omega) (fun j hj => h j (by omega)), h n (by omega) (by omega)]; omega
theorem sm_mul (f : Nat → Int) (c : Int) : ∀ n, sm (fun k => f k * c) n = sm f n * c := by
  intro n
  induction n with
  | zero => simp [sm]
  | succ n ih => simp only [sm]; rw [ih, Int.add_mul]
theorem sm_swap (f : Nat → Nat → Int) (m : Nat) : ∀ n, sm (fun k => sm (fun j => f k j) m) n = sm (fun j => sm (fun k => f k j) n) m := by
  intro n
  induction n with
  | zero => simp only [sm]; rw [sm_0]
  | succ n ih => simp only [sm]; rw [ih, ← sm_add]
/-! ===== answers ===== -/
def wor (V : Vy) (s : Int) (p : Nat) (h : Int) : Int := sm (fun q => if tbit (me V p) q then ge V (4 * h + hab V s q).toNat else 0) (pe V).toNat
def lik (V : Vy) (s : Int) (p : Nat) (h : Int) : Int := sm (fun q => if tbit (me V p) q = true ∧ hab V s q = h then 1 else 0) (pe V).toNat
/-- the greatest so far, and where -/
def gr (f : Nat → Int) : Nat → Int × Int
  | 0 => (-1, 0)
  | n + 1 => if f n > (gr f n).1 then (f n, sadd 0 n) else if f n = (gr f n).1 then ((gr f n).1, sadd (gr f n).2 n) else gr f n
def cp (V : Vy) (s : Int) (p : Nat) : Nat → Int × Int
  | 0 => (-1, 0)
  | n + 1 => if n ≠ p ∧ ¬ tbit (me V p) n = true then cp V s p n else if wor V s n (hab V s n) > (cp V s p n).1 then (wor V s n (hab V s n), sadd 0 (hab V s n).toNat) else if wor V s n (hab V s n) = (cp V s p n).1 then ((cp V s p n).1, sadd (cp V s p n).2 (hab V s n).toNat) else cp V s p n
def aset (V : Vy) (s : Int) (p : Nat) : Int := if an V = 2 then (cp V s p (pe V).toNat).2 else (gr (fun h => if an V = 0 then wor V s p h else lik V s p h) (ha V).toNat).2
def ans (V : Vy) (s : Int) (p : Nat) : Int := if ke V p ≠ -1 then 2 ^ (ke V p).toNat else if sy V = 1 ∧ tbit (aset V s p) (hab V s p).toNat = true then 2 ^ (hab V s p).toNat else aset V s p
theorem gr_bd (f : Nat → Int) : ∀ n, -1 ≤ (gr f n).1 ∧ 0 ≤ (gr f n).2 ∧ (gr f n).2.toNat < 2 ^ n := by
  intro n
  induction n with
  | zero => simp [gr]
  | succ n ih =>
    have h1 : (gr f n).2.toNat < 2 ^ (n + 1) := Nat.lt_of_lt_of_le ih.2.2 (Nat.pow_le_pow_right (by omega) (by omega))
    rw [gr]
    split
    · rename_i hc
      have h2 := sadd_bd (m := 0) (q := n) (n := n + 1) (by simp; exact Nat.pow_pos (by omega)) (by omega)
      exact ⟨by show -1 ≤ f n; omega, h2.1, h2.2⟩
    · split
      · have h2 := sadd_bd (q := n) h1 (by omega)
        exact ⟨ih.1, h2.1, h2.2⟩
      · exact ⟨ih.1, ih.2.1, h1⟩
theorem gr_spec (f : Nat → Int) (hf : ∀ k, 0 ≤ f k) : ∀ n, (∀ k, k < n → f k ≤ (gr f n).1) ∧ (∀ k, tbit (gr f n).2 k = true ↔ k < n ∧ f k = (gr f n).1) := by
  intro n
  induction n with
  | zero =>
    refine ⟨fun k hk => by omega, fun k => ?_⟩
    simp [gr, tbit]
  | succ n ih =>
    obtain ⟨i1, i2⟩ := ih
    rw [gr]
    split
    · rename_i hc
      refine ⟨fun k hk => ?_, fun k => ?_⟩
      · show f k ≤ f n
        by_cases e : k = n
        · rw [e]; omega
        · have := i1 k (by omega); omega
      · show tbit (sadd 0 n) k = true ↔ k < n + 1 ∧ f k = f n
        rw [sadd_bit]
        constructor
        · rintro (h | h)
          · exact absurd h (tbit_0 k)
          · subst h; exact ⟨by omega, rfl⟩
        · rintro ⟨h1, h2⟩
          right
          apply Classical.byContradiction
          intro hn
          have := i1 k (by omega)
          omega
    · split
      · rename_i hc hd
        refine ⟨fun k hk => ?_, fun k => ?_⟩
        · show f k ≤ (gr f n).1
          by_cases e : k = n
          · rw [e]; omega
          · exact i1 k (by omega)
        · show tbit (sadd (gr f n).2 n) k = true ↔ k < n + 1 ∧ f k = (gr f n).1
          rw [sadd_bit, i2]
          constructor
          · rintro (⟨h1, h2⟩ | h)
            · exact ⟨by omega, h2⟩
            · subst h; exact ⟨by omega, hd⟩
          · rintro ⟨h1, h2⟩
            by_cases e : k = n
            · exact Or.inr e
            · exact Or.inl ⟨by omega, h2⟩
      · rename_i hc hd
        refine ⟨fun k hk => ?_, fun k => ?_⟩
        · by_cases e : k = n
          · rw [e]; omega
          · exact i1 k (by omega)
        · rw [i2]
          constructor
          · rintro ⟨h1, h2⟩; exact ⟨by omega, h2⟩
          · rintro ⟨h1, h2⟩
            refine ⟨?_, h2⟩
            apply Classical.byContradiction
            intro hn
            have e : k = n := by omega
            rw [e] at h2
            exact hd h2
theorem gr_some (f : Nat → Int) (hf : ∀ k, 0 ≤ f k) {n : Nat} (hn : 0 < n) : ∃ k, k < n ∧ tbit (gr f n).2 k = true := by
  induction n with
  | zero => omega
  | succ n ih =>
    obtain ⟨s1, s2⟩ := gr_spec f hf (n + 1)
    by_cases h : (gr f (n + 1)).1 = f n
    · exact ⟨n, by omega, (s2 n).mpr ⟨by omega, h.symm⟩⟩
    · have e : gr f (n + 1) = gr f n := by
        rw [gr]
        split
        · rename_i hc; rw [gr, if_pos hc] at h; exact absurd rfl h
        · split
          · rename_i hc hd; rw [gr, if_neg hc, if_pos hd] at h; exact absurd hd.symm h
          · rfl
      have hn0 : 0 < n := by
        apply Classical.byContradiction
        intro q
        have : n = 0 := by omega
        subst this
        have := hf 0
        rw [gr, if_pos (by show f 0 > -1; omega)] at h
        exact h rfl
      obtain ⟨k, h1, h2⟩ := ih hn0
      exact ⟨k, by omega, by rw [e]; exact h2⟩
/-! counts -/
noncomputable def cnt (P : Nat → Prop) : Nat → Nat
  | 0 => 0
  | n + 1 => cnt P n + @ite Nat (P n) (Classical.propDecidable _) 1 0
theorem cnt_t {P : Nat → Prop} {n : Nat} (h : P n) : cnt P (n + 1) = cnt P n + 1 := by rw [cnt, if_pos h]
theorem cnt_f {P : Nat → Prop} {n : Nat} (h : ¬ P n) : cnt P (n + 1) = cnt P n := by rw [cnt, if_neg h]; rfl
theorem cnt_le {P Q : Nat → Prop} : ∀ {n : Nat}, (∀ k, k < n → P k → Q k) → cnt P n ≤ cnt Q n := by
  intro n
  induction n with
  | zero => intro _; exact Nat.le_refl _
  | succ n ih =>
    intro h
    have h1 := ih (fun k hk => h k (by omega))
    by_cases hp : P n
    · rw [cnt_t hp, cnt_t (h n (by omega) hp)]; omega
    · rw [cnt_f hp]
      by_cases hq : Q n
      · rw [cnt_t hq]; omega
      · rw [cnt_f hq]; exact h1
theorem cnt_lt {P Q : Nat → Prop} {m : Nat} : ∀ {n : Nat}, m < n → (∀ k, k < n → P k → Q k) → Q m → ¬ P m → cnt P n < cnt Q n := by
  intro n
  induction n with
  | zero => intro h; omega
  | succ n ih =>
    intro hm h hq hp
    by_cases e : m = n
    · subst e
      rw [cnt_t hq, cnt_f hp]
      have := cnt_le (n := m) (P := P) (Q := Q) (fun k hk => h k (by omega))
      omega
    · have h1 := ih (by omega) (fun k hk => h k (by omega)) hq hp
      by_cases hp : P n
      · rw [cnt_t hp, cnt_t (h n (by omega) hp)]; omega
      · rw [cnt_f hp]
        by_cases hq : Q n
        · rw [cnt_t hq]; omega
        · rw [cnt_f hq]; exact h1
theorem cnt_bd (P : Nat → Prop) : ∀ n, cnt P n ≤ n := by
  intro n
  induction n with
  | zero => exact Nat.le_refl _
  | succ n ih =>
    by_cases hp : P n
    · rw [cnt_t hp]; omega
    · rw [cnt_f hp]; omega
theorem cnt_eq {P Q : Nat → Prop} : ∀ {n : Nat}, (∀ k, k < n → (P k ↔ Q k)) → cnt P n = cnt Q n := by
  intro n h
  exact Nat.le_antisymm (cnt_le (fun k hk => (h k hk).mp)) (cnt_le (fun k hk => (h k hk).mpr))
theorem cnt_add {P Q : Nat → Prop} {m : Nat} : ∀ {n : Nat}, m < n → (∀ k, k < n → k ≠ m → (P k ↔ Q k)) → Q m → ¬ P m → cnt Q n = cnt P n + 1 := by
  intro n
  induction n with
  | zero => intro h; omega
  | succ n ih =>
    intro hm h hq hp
    by_cases e : m = n
    · subst e
      rw [cnt_t hq, cnt_f hp, cnt_eq (fun k hk => h k (by omega) (by omega))]
    · have h1 := ih (by omega) (fun k hk => h k (by omega)) hq hp
      have h2 := h n (by omega) (by omega)
      by_cases c : P n
      · rw [cnt_t c, cnt_t (h2.mp c)]; omega
      · rw [cnt_f c, cnt_f (fun z => c (h2.mpr z))]; exact h1
theorem cnt_ext {P : Nat → Prop} {n : Nat} : ∀ {m : Nat}, n ≤ m → (∀ k, n ≤ k → k < m → ¬ P k) → cnt P m = cnt P n := by
  intro m
  induction m with
  | zero => intro h _; rw [show n = 0 by omega]
  | succ m ih =>
    intro h hp
    by_cases e : n = m + 1
    · rw [e]
    · rw [cnt_f (hp m (by omega) (by omega))]
      exact ih (by omega) (fun k h1 h2 => hp k h1 (by omega))
theorem cnt_0 {P : Nat → Prop} {n : Nat} (h : ∀ k, k < n → ¬ P k) : cnt P n = 0 := cnt_ext (n := 0) (by omega) (fun k _ hk => h k hk)
theorem cnt_all {P : Nat → Prop} {n : Nat} (h : cnt P n = n) : ∀ k, k < n → P k := by
  intro k hk
  apply Classical.byContradiction
  intro hn
  have := cnt_lt (P := P) (Q := fun _ => True) (m := k) hk (fun _ _ _ => trivial) trivial hn
  have := cnt_bd (fun _ => True) n
  omega
theorem cnt_or {P Q : Nat → Prop} : ∀ {n : Nat}, (∀ k, k < n → ¬ (P k ∧ Q k)) → cnt (fun k => P k ∨ Q k) n = cnt P n + cnt Q n := by
  intro n
  induction n with
  | zero => intro _; rfl
  | succ n ih =>
    intro h
    have h1 := ih (fun k hk => h k (by omega))
    by_cases c : P n
    · rw [cnt_t (P := fun k => P k ∨ Q k) (Or.inl c), cnt_t c, cnt_f (fun z => h n (by omega) ⟨c, z⟩)]; omega
    · by_cases d : Q n
      · rw [cnt_t (P := fun k => P k ∨ Q k) (Or.inr d), cnt_f c, cnt_t d]; omega
      · rw [cnt_f (P := fun k => P k ∨ Q k) (fun z => z.elim c d), cnt_f c, cnt_f d]; exact h1
