/-! ===== MOVES, what can be come to, RESTS, costs: the mathematics ===== -/
def E (V : Vy) (s t : Int) : Prop := ∃ p : Nat, (p : Int) < pe V ∧ ke V p = -1 ∧ ∃ h, 0 ≤ h ∧ h < ha V ∧ t = wi V s p h ∧ tbit (ans V s p) h.toNat = true
def Rch (V : Vy) (s t : Int) : Prop := ∀ P : Int → Prop, P s → (∀ a b, P a → E V a b → P b) → P t
section Graph
variable {V : Vy} {s t u : Int}
theorem Rch.rf : Rch V s s := fun _ h _ => h
theorem Rch.tr (h : Rch V s t) (k : Rch V t u) : Rch V s u := fun P h1 h2 => k P (h P h1 h2) h2
theorem Rch.one (h : E V s t) : Rch V s t := fun _ h1 h2 => h2 _ _ h1 h
theorem Rch.hd (h : E V s t) (k : Rch V t u) : Rch V s u := (Rch.one h).tr k
theorem Rch.back (h : Rch V s t) (R : Int → Prop) (h1 : R t) (h2 : ∀ a b, E V a b → R b → R a) : R s :=
  h (fun x => ∀ R : Int → Prop, R x → (∀ a b, E V a b → R b → R a) → R s) (fun R h _ => h) (fun a b ha he R hb hR => ha R (hR a b he hb) hR) R h1 h2
theorem E.st (hV : VOK V) (hs : isSt V s) (h : E V s t) : isSt V t := by
  obtain ⟨p, hp, hk, x, h0, h1, rfl, -⟩ := h
  exact isSt_wi hV hs hp hk h0 h1
theorem Rch.st (hV : VOK V) (hs : isSt V s) (h : Rch V s t) : isSt V t := h (isSt V) hs (fun _ _ ha he => E.st hV ha he)
def Rst (V : Vy) (s : Int) : Prop := isSt V s ∧ ∀ t, Rch V s t → Rch V t s
theorem Rst.cl (hV : VOK V) (h : Rst V s) (k : Rch V s t) : Rst V t := ⟨k.st hV h.1, fun u hu => (h.2 u (k.tr hu)).tr k⟩
end Graph
section Graph2
variable {V : Vy}
theorem rch_rest (hV : VOK V) : ∀ {s : Int}, isSt V s → ∃ t, Rch V s t ∧ Rst V t := by
  have key : ∀ n s, isSt V s → cnt (fun k => Rch V s (k : Int)) 1024 < n → ∃ t, Rch V s t ∧ Rst V t := by
    intro n
    induction n with
    | zero => intro s _ h; omega
    | succ n ih =>
      intro s hs hc
      by_cases hr : Rst V s
      · exact ⟨s, Rch.rf, hr⟩
      · have : ∃ t, Rch V s t ∧ ¬ Rch V t s := by
          apply Classical.byContradiction
          intro hn
          exact hr ⟨hs, fun t ht => Classical.byContradiction (fun q => hn ⟨t, ht, q⟩)⟩
        obtain ⟨t, h1, h2⟩ := this
        have ht := h1.st hV hs
        have hb := st_bd hV hs
        have : cnt (fun k => Rch V t (k : Int)) 1024 < cnt (fun k => Rch V s (k : Int)) 1024 := cnt_lt (m := s.toNat) (by omega) (fun k _ hk => h1.tr hk) (by rw [show ((s.toNat : Nat) : Int) = s by omega]; exact Rch.rf) (by rw [show ((s.toNat : Nat) : Int) = s by omega]; exact h2)
        obtain ⟨u, u1, u2⟩ := ih t ht (by omega)
        exact ⟨u, h1.tr u1, u2⟩
  intro s hs
  exact key _ s hs (Nat.lt_succ_self _)
/-- the numbers of the RESTS -/
def HOME (V : Vy) (home : Int → Int) (n : Int) : Prop := (∀ s, isSt V s → (home s = -1 ∧ ¬ Rst V s) ∨ (0 ≤ home s ∧ home s < n ∧ Rst V s)) ∧ (∀ s t, Rst V s → Rst V t → (home s = home t ↔ Rch V s t)) ∧ (∀ s, Rst V s → ∀ k, 0 ≤ k → k < home s → ∃ t, Rst V t ∧ t < s ∧ home t = k) ∧ (∀ k, 0 ≤ k → k < n → ∃ s, Rst V s ∧ home s = k) ∧ 0 ≤ n
theorem HOME.uniq (hV : VOK V) {f g : Int → Int} {n m : Int} (hf : HOME V f n) (hg : HOME V g m) : (∀ s, isSt V s → f s = g s) ∧ n = m := by
  have key : ∀ k : Nat, ∀ s, Rst V s → s < k → f s = g s := by
    intro k
    induction k with
    | zero => intro s hs h; have := (st_bd hV hs.1).1; omega
    | succ k ih =>
      intro s hs hk
      have f1 := (hf.1 s hs.1).resolve_left (fun z => z.2 hs)
      have g1 := (hg.1 s hs.1).resolve_left (fun z => z.2 hs)
      rcases Int.lt_trichotomy (f s) (g s) with h | h | h
      · obtain ⟨t, t1, t2, t3⟩ := hg.2.2.1 s hs (f s) f1.1 h
        have e1 := ih t t1 (by omega)
        have e2 := (hf.2.1 t s t1 hs).mp (by omega)
        have e3 := (hg.2.1 t s t1 hs).mpr e2
        omega
      · exact h
      · obtain ⟨t, t1, t2, t3⟩ := hf.2.2.1 s hs (g s) g1.1 h
        have e1 := ih t t1 (by omega)
        have e2 := (hg.2.1 t s t1 hs).mp (by omega)
        have e3 := (hf.2.1 t s t1 hs).mpr e2
        omega
  have key2 : ∀ s, Rst V s → f s = g s := fun s hs => key (s.toNat + 1) s hs (by have := (st_bd hV hs.1).1; omega)
  refine ⟨fun s hs => ?_, ?_⟩
  · by_cases hr : Rst V s
    · exact key2 s hr
    · have f1 := (hf.1 s hs).resolve_right (fun z => hr z.2.2)
      have g1 := (hg.1 s hs).resolve_right (fun z => hr z.2.2)
      omega
  · have hn := hf.2.2.2.2
    have hm := hg.2.2.2.2
    rcases Int.lt_trichotomy n m with h | h | h
    · obtain ⟨s, s1, s2⟩ := hg.2.2.2.1 n hn h
      have := (hf.1 s s1.1).resolve_left (fun z => z.2 s1)
      have := key2 s s1
      omega
    · exact h
    · obtain ⟨s, s1, s2⟩ := hf.2.2.2.1 m hm h
      have := (hg.1 s s1.1).resolve_left (fun z => z.2 s1)
      have := key2 s s1
      omega
/-- s comes to REST k alone -/
def BAS (V : Vy) (home : Int → Int) (k s : Int) : Prop := ∀ t, Rst V t → Rch V s t → home t = k
theorem BAS.cl {home : Int → Int} {k s t : Int} (h : BAS V home k s) (he : Rch V s t) : BAS V home k t := fun u hu hr => h u hu (he.tr hr)
theorem BAS.un (hV : VOK V) {home : Int → Int} {k l s : Int} (hs : isSt V s) (h : BAS V home k s) (h' : BAS V home l s) : k = l := by
  obtain ⟨t, t1, t2⟩ := rch_rest hV hs
  rw [← h t t2 t1, ← h' t t2 t1]
/-! MOVES with their cost -/
def Mv (V : Vy) (s t c : Int) : Prop := ∃ p : Nat, (p : Int) < pe V ∧ ke V p = -1 ∧ ∃ h, 0 ≤ h ∧ h < ha V ∧ t = wi V s p h ∧ c = if tbit (ans V s p) h.toNat = true then 0 else sl V h.toNat
theorem Mv.bd (hV : VOK V) {s t c : Int} (h : Mv V s t c) : 0 ≤ c ∧ c ≤ 3 := by
  obtain ⟨p, -, -, x, h0, h1, -, rfl⟩ := h
  have := hV.ha
  have := hV.sl x.toNat (by omega)
  split <;> omega
theorem Mv.st (hV : VOK V) {s t c : Int} (hs : isSt V s) (h : Mv V s t c) : isSt V t := by
  obtain ⟨p, hp, hk, x, h0, h1, rfl, -⟩ := h
  exact isSt_wi hV hs hp hk h0 h1
theorem Mv.of_E {s t : Int} (h : E V s t) : Mv V s t 0 := by
  obtain ⟨p, hp, hk, x, h0, h1, h2, h3⟩ := h
  exact ⟨p, hp, hk, x, h0, h1, h2, by rw [if_pos h3]⟩
theorem Mv.E0 (hV : VOK V) {s t : Int} (h : Mv V s t 0) : E V s t := by
  obtain ⟨p, hp, hk, x, h0, h1, h2, h3⟩ := h
  refine ⟨p, hp, hk, x, h0, h1, h2, ?_⟩
  apply Classical.byContradiction
  intro hn
  rw [if_neg hn] at h3
  have := hV.ha
  have := hV.sl x.toNat (by omega)
  omega
/-- least costs to come to the STATES of Tg: 4096 times the cost of SLIPS, and the MOVES -/
def DIST (V : Vy) (Tg : Int → Prop) (F : Int → Int) : Prop := ∀ s, isSt V s → 0 ≤ F s ∧ (Tg s → F s = 0) ∧ (∀ t c, Mv V s t c → F s ≤ F t + 4096 * c + 1) ∧ (¬ Tg s → ∃ t c, Mv V s t c ∧ F s = F t + 4096 * c + 1)
theorem DIST.uniq (hV : VOK V) {Tg : Int → Prop} {F G : Int → Int} (hF : DIST V Tg F) (hG : DIST V Tg G) : ∀ s, isSt V s → F s = G s := by
  have half : ∀ {F G : Int → Int}, DIST V Tg F → DIST V Tg G → ∀ n : Nat, ∀ s, isSt V s → G s < n → F s ≤ G s := by
    intro F G hF hG n
    induction n with
    | zero => intro s hs h; have := (hG s hs).1; omega
    | succ n ih =>
      intro s hs h
      by_cases ht : Tg s
      · rw [(hF s hs).2.1 ht, (hG s hs).2.1 ht]; omega
      · obtain ⟨t, c, h1, h2⟩ := (hG s hs).2.2.2 ht
        have hb := h1.bd hV
        have := ih t (h1.st hV hs) (by omega)
        have := (hF s hs).2.2.1 t c h1
        omega
  intro s hs
  have h1 := half hF hG ((G s).toNat + 1) s hs (by have := (hG s hs).1; omega)
  have h2 := half hG hF ((F s).toNat + 1) s hs (by have := (hF s hs).1; omega)
  omega
theorem far_le {F : Int → Int} (hV : VOK V) {t : Int} (ht : isSt V t) (hT : F t = 0) (hF : ∀ s u c, isSt V s → Mv V s u c → F u ≤ 122890 → F s ≤ F u + 4096 * c + 1) : ∀ s, isSt V s → F s ≤ 122890 := by
  have hpe := hV.pe
  have key : ∀ n : Nat, n ≤ 10 → ∀ s, isSt V s → cnt (fun p => hab V s p ≠ hab V t p) (pe V).toNat ≤ n → F s ≤ n * 12289 := by
    intro n
    induction n with
    | zero =>
      intro _ s hs hc
      have e : s = t := st_ext hV hs.1 ht.1 (fun p hp => by
        apply Classical.byContradiction
        intro hn
        have := cnt_lt (P := fun _ => False) (Q := fun p => hab V s p ≠ hab V t p) (m := p) (n := (pe V).toNat) (by omega) (fun _ _ h => h.elim) hn (fun h => h)
        omega)
      rw [e, hT]
      omega
    | succ n ih =>
      intro hn10 s hs hc
      by_cases hd : ∃ p : Nat, (p : Int) < pe V ∧ hab V s p ≠ hab V t p
      · obtain ⟨p, hp, hne⟩ := hd
        have hk : ke V p = -1 := by
          apply Classical.byContradiction
          intro hk
          exact hne (by rw [hs.2 p hp hk, ht.2 p hp hk])
        have hb := hab_bd hV t p
        have hs' := isSt_wi hV hs hp hk hb.1 hb.2
        have e1 := hab_wi_same hV hs.1.1 (p := p) hb.1 hb.2
        have hlt : cnt (fun q => hab V (wi V s p (hab V t p)) q ≠ hab V t q) (pe V).toNat < cnt (fun q => hab V s q ≠ hab V t q) (pe V).toNat := cnt_lt (m := p) (by omega) (fun q _ hq => by
          by_cases e : q = p
          · subst e; exact absurd e1 hq
          · rw [hab_wi_ne hV hs.1.1 hb.1 hb.2 e] at hq; exact hq) hne (fun z => z e1)
        have h1 := ih (by omega) _ hs' (by omega)
        have hm : Mv V s (wi V s p (hab V t p)) (if tbit (ans V s p) (hab V t p).toNat = true then 0 else sl V (hab V t p).toNat) := ⟨p, hp, hk, _, hb.1, hb.2, rfl, rfl⟩
        have h2 := hF s _ _ hs hm (by omega)
        have h3 := hm.bd hV
        push_cast
        omega
      · have := ih (by omega) s hs (by
          have : cnt (fun p => hab V s p ≠ hab V t p) (pe V).toNat ≤ cnt (fun _ => False) (pe V).toNat := cnt_le (fun k hk h => hd ⟨k, by omega, h⟩)
          have h0 : ∀ m, cnt (fun _ => False) m = 0 := fun m => by
            induction m with
            | zero => rfl
            | succ m ih => rw [cnt_f (fun h => h)]; exact ih
          rw [h0] at this
          omega)
        push_cast
        omega
  intro s hs
  have h1 := key 10 (by omega) s hs (Nat.le_trans (cnt_bd _ _) (by omega))
  omega
theorem DIST.le {Tg : Int → Prop} {F : Int → Int} (hF : DIST V Tg F) (hV : VOK V) {t : Int} (ht : isSt V t) (hT : Tg t) : ∀ s, isSt V s → F s ≤ 122890 := far_le hV ht ((hF t ht).2.1 hT) (fun s u c hs hm _ => (hF s hs).2.2.1 u c hm)
/-- the SLIPS' cost and the MOVES of the least way -/
theorem DIST.cm {Tg : Int → Prop} {F : Int → Int} (hF : DIST V Tg F) (hV : VOK V) : ∀ s, isSt V s → F s % 4096 ≤ 1023 ∧ (¬ Tg s → ∃ t c, Mv V s t c ∧ F t < F s ∧ F s / 4096 = F t / 4096 + c ∧ F s % 4096 = F t % 4096 + 1) := by
  have key : ∀ n : Nat, ∀ s, isSt V s → F s < n → F s % 4096 ≤ cnt (fun k => isSt V (k : Int) ∧ F (k : Int) < F s) 1024 ∧ (¬ Tg s → ∃ t c, Mv V s t c ∧ F t < F s ∧ F s / 4096 = F t / 4096 + c ∧ F s % 4096 = F t % 4096 + 1) := by
    intro n
    induction n with
    | zero => intro s hs h; have := (hF s hs).1; omega
    | succ n ih =>
      intro s hs h
      by_cases ht : Tg s
      · refine ⟨?_, fun q => absurd ht q⟩
        rw [(hF s hs).2.1 ht]
        omega
      · obtain ⟨t, c, h1, h2⟩ := (hF s hs).2.2.2 ht
        have hb := h1.bd hV
        have hts := h1.st hV hs
        have htb := st_bd hV hts
        have h3 := (ih t hts (by omega)).1
        have h4 : cnt (fun k => isSt V (k : Int) ∧ F (k : Int) < F t) 1024 < cnt (fun k => isSt V (k : Int) ∧ F (k : Int) < F s) 1024 := cnt_lt (m := t.toNat) (by omega) (fun k _ z => ⟨z.1, by omega⟩) (by rw [show ((t.toNat : Nat) : Int) = t by omega]; exact ⟨hts, by omega⟩) (by rw [show ((t.toNat : Nat) : Int) = t by omega]; intro z; omega)
        have h5 := cnt_bd (fun k => isSt V (k : Int) ∧ F (k : Int) < F s) 1024
        have h6 : F s / 4096 = F t / 4096 + c ∧ F s % 4096 = F t % 4096 + 1 := by omega
        exact ⟨by omega, fun _ => ⟨t, c, h1, by omega, h6.1, h6.2⟩⟩
  intro s hs
  have hsb := st_bd hV hs
  have h1 := key ((F s).toNat + 1) s hs (by have := (hF s hs).1; omega)
  refine ⟨?_, h1.2⟩
  have h2 : cnt (fun k => isSt V (k : Int) ∧ F (k : Int) < F s) 1024 < cnt (fun _ => True) 1024 := cnt_lt (m := s.toNat) (by omega) (fun _ _ _ => trivial) trivial (by rw [show ((s.toNat : Nat) : Int) = s by omega]; intro z; omega)
  have h3 := cnt_bd (fun _ => True) 1024
  omega
theorem DIST.cle {Tg : Int → Prop} {F : Int → Int} (hF : DIST V Tg F) (hV : VOK V) {s t c : Int} (hs : isSt V s) (h : Mv V s t c) : F s / 4096 ≤ F t / 4096 + c := by
  have h1 := (hF s hs).2.2.1 t c h
  have h2 := (hF.cm hV t (h.st hV hs)).1
  omega
/-- cost 0: a STATE of Tg is come to without slips -/
theorem DIST.zero {Tg : Int → Prop} {F : Int → Int} (hF : DIST V Tg F) (hV : VOK V) {s : Int} (hs : isSt V s) : F s / 4096 = 0 ↔ ∃ t, Tg t ∧ Rch V s t := by
  constructor
  · have key : ∀ n : Nat, ∀ s, isSt V s → F s < n → F s / 4096 = 0 → ∃ t, Tg t ∧ Rch V s t := by
      intro n
      induction n with
      | zero => intro s hs h; have := (hF s hs).1; omega
      | succ n ih =>
        intro s hs h h0
        by_cases ht : Tg s
        · exact ⟨s, ht, Rch.rf⟩
        · obtain ⟨t, c, h1, h2, h3, h4⟩ := (hF.cm hV s hs).2 ht
          have hb := h1.bd hV
          have hts := h1.st hV hs
          have hn := (hF t hts).1
          have hc : c = 0 := by omega
          subst hc
          obtain ⟨u, u1, u2⟩ := ih t hts (by omega) (by omega)
          exact ⟨u, u1, (Rch.one (h1.E0 hV)).tr u2⟩
    exact fun h => key ((F s).toNat + 1) s hs (by have := (hF s hs).1; omega) h
  · rintro ⟨t, h1, h2⟩
    have : isSt V s → F s / 4096 = 0 := h2.back (fun x => isSt V x → F x / 4096 = 0) (fun ht => by rw [(hF t ht).2.1 h1]; rfl) (fun a b he hb ha => by
      have h3 := hF.cle hV ha (Mv.of_E he)
      have h4 := hb (E.st hV ha he)
      have h5 := (hF a ha).1
      omega)
    exact this hs
end Graph2
