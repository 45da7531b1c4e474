/-! ===== the class' Rests: nextMove, enter, close ===== -/
def ed (V : Vy) (mo ta : Nat → Int) (x : Int) (k : Nat) (u : Int) : Prop := u = wi V x (mo k).toNat (ta k) ∧ tbit (ans V x (mo k).toNat) (ta k).toNat = true ∧ u ≠ x
def xE (V : Vy) (mo ta : Nat → Int) (M : Int) (tr : Nat → Int) (x u : Int) : Prop := ∃ k : Nat, (k : Int) < tr x.toNat ∧ (k : Int) < M ∧ ed V mo ta x k u
def rsP (i : Nat) (c i' _j : Nat) : Prop := i' = i ∧ ((27 ≤ c ∧ c ≤ 36) ∨ c = 5)
def nmP (i : Nat) (s : Int) (c i' j : Nat) : Prop := i' = i ∧ c = 34 ∧ j = s.toNat
section CR
variable {i j : Nat} {σ : St} {Q : Res → St → Prop} {V : Vy} {s t : Int}
theorem c_nextMove {mo ta : Nat → Int} {M : Int} (hV : VOK V) (hA : VA σ j V) (hR : REP σ j V) (hmo : ∀ k, σ 58 j k = mo k) (hta : ∀ k, σ 59 j k = ta k) (hM : σ 10 j 13 = M) (hs : isSt V s) (h0 : 0 ≤ σ 34 i s.toNat) (h1 : σ 34 i s.toNat ≤ M) (hN : ∀ τ, FR (nmP i s) σ τ → τ 34 i s.toNat = M → (∀ x u, isSt V x → (xE V mo ta M (τ 34 i) x u ↔ xE V mo ta M (σ 34 i) x u)) → (∀ u, E V s u → u = s ∨ xE V mo ta M (σ 34 i) s u) → Q (.inl (some (vI (-1)))) τ) (hT : ∀ τ t, FR (nmP i s) σ τ → σ 34 i s.toNat < τ 34 i s.toNat → τ 34 i s.toNat ≤ M → (∀ x u, isSt V x → (xE V mo ta M (τ 34 i) x u ↔ xE V mo ta M (σ 34 i) x u ∨ (x = s ∧ u = t))) → E V s t → t ≠ s → Q (.inl (some (vI t))) τ) : WP mX4_nextMove 0 [vR 5 i, vR 2 j, vI s, vU, vU] [] σ Q := by
  have hsb := st_bd hV hs
  have hm := hA.2.2.2.2.1
  have ne : ∀ x, isSt V x → x ≠ s → x.toNat ≠ s.toNat := fun x hx q z => q (by have := hx.1.1; omega)
  have key : ∀ n k : Nat, ((n + k : Nat) : Int) = M → σ 34 i s.toNat ≤ k → ∀ τ, FR (nmP i s) σ τ → τ 34 i s.toNat = k → (∀ k' : Nat, σ 34 i s.toNat ≤ k' → k' < k → ∀ u, ¬ ed V mo ta s k' u) → WP mX4_nextMove 0 [vR 5 i, vR 2 j, vI s, vU, vU] [] τ Q := by
    intro n
    have xo : ∀ τ, FR (nmP i s) σ τ → ∀ x u, isSt V x → x ≠ s → (xE V mo ta M (τ 34 i) x u ↔ xE V mo ta M (σ 34 i) x u) := fun τ t1 x u hx hn => by
      unfold xE
      rw [t1 34 i x.toNat (fun z => ne x hx hn z.2.2)]
    induction n with
    | zero =>
      intro k hk hk0 τ t1 t2 t3
      have e13 : τ 10 j 13 = M := by rw [← hM]; exact t1 _ _ _ (fun z => by unfold nmP at z; omega)
      have ex : ∀ u, xE V mo ta M (τ 34 i) s u ↔ xE V mo ta M (σ 34 i) s u := fun u => ⟨fun ⟨k', q1, q2, q3⟩ => by
        by_cases c : (k' : Int) < σ 34 i s.toNat
        · exact ⟨k', c, q2, q3⟩
        · exact absurd q3 (t3 k' (by omega) (by omega) u), fun ⟨k', q1, q2, q3⟩ => ⟨k', by omega, q2, q3⟩⟩
      refine b_X4_nextMove_0 ⟨⟨by omega, by omega⟩, fun _ => hN τ t1 (by omega) (fun x u hx => ?_) (fun u hu => ?_), fun z => by omega⟩
      · by_cases c : x = s
        · rw [c]; exact ex u
        · exact xo τ t1 x u hx c
      · by_cases c : u = s
        · exact Or.inl c
        · refine Or.inr ((ex u).mp ?_)
          obtain ⟨p, p1, p2, x, x0, x1, x2, x3⟩ := hu
          obtain ⟨k', k1, k2, k3⟩ := hA.2.2.2.2.2.2 p p1 p2 x x0 x1
          rw [hmo] at k2
          rw [hta] at k3
          refine ⟨k', by omega, by omega, ?_⟩
          unfold ed
          rw [k2, k3, Int.toNat_natCast]
          exact ⟨x2, x3, c⟩
    | succ n ih =>
      intro k hk hk0 τ t1 t2 t3
      have hA' : VA τ j V := hA.fr t1 (fun c k hc z => by unfold nmP at z; omega)
      have hR' : REP τ j V := hR.fr t1 (fun k z => by unfold nmP at z; omega)
      have e13 : τ 10 j 13 = M := by rw [← hM]; exact t1 _ _ _ (fun z => by unfold nmP at z; omega)
      have e58 : τ 58 j k = mo k := by rw [← hmo]; exact t1 _ _ _ (fun z => by unfold nmP at z; omega)
      have e59 : τ 59 j k = ta k := by rw [← hta]; exact t1 _ _ _ (fun z => by unfold nmP at z; omega)
      have hkt : (k : Int) < τ 10 j 13 := by omega
      obtain ⟨p, p1, p2, p3, p4, p5, p6, p7, p8⟩ := bes_eq hV hA' hR' hs hkt
      have hsd := bes_sides hV hA' hR' hs hkt
      have hbst := isSt_wi hV hs p1 p2 p4 p5
      have hbb := st_bd hV hbst
      have hpe := hV.pe
      have hha := hV.ha
      have t1' : FR (nmP i s) σ (up τ 34 i s.toNat ((k : Int) + 1)) := t1.u ⟨rfl, rfl, rfl⟩
      have hA2 : VA (up τ 34 i s.toNat ((k : Int) + 1)) j V := hA.fr t1' (fun c k hc z => by unfold nmP at z; omega)
      have hR2 : REP (up τ 34 i s.toNat ((k : Int) + 1)) j V := hR.fr t1' (fun k z => by unfold nmP at z; omega)
      have u34 : (up τ 34 i s.toNat ((k : Int) + 1)) 34 i s.toNat = ((k + 1 : Nat) : Int) := by rw [up_s]; push_cast; rfl
      obtain ⟨q1, q2⟩ := prc_eq hV hA2 hR2 hs hbst p1
      rw [hab_wi_same hV hs.1.1 p4 p5] at q1 q2
      have hsl := hV.sl (τ 59 j k).toNat (by omega)
      have mk' : (mo k).toNat = p := by rw [← e58, p3, Int.toNat_natCast]
      refine b_X4_nextMove_0 ?_
      rw [t2]
      simp only [Int.toNat_natCast]
      rw [p8]
      rw [p8] at hsd
      rw [p3] at hsd ⊢
      rw [q1, q2, e13]
      have go : (∀ u, ¬ ed V mo ta s k u) → WP mX4_nextMove 0 [vR 5 i, vR 2 j, vI s, vU, vU] [] (up τ 34 i s.toNat ((k : Int) + 1)) Q := fun hno => ih (k + 1) (by omega) (by omega) _ t1' u34 (fun k' h1 h2 u => by
        by_cases c : k' = k
        · rw [c]; exact hno u
        · exact t3 k' h1 (by omega) u)
      refine ⟨⟨by omega, by omega⟩, fun z => by omega, fun _ => ⟨⟨by omega, by omega⟩, hsd, ⟨by omega, by omega⟩, ⟨by omega, by omega⟩, ⟨by omega, by omega⟩, by unfold in32; omega, ⟨by omega, by omega⟩, fun hc => go (fun u hu => ?_), fun hc => ⟨⟨by omega, by omega, by omega, by omega, by omega, by omega, by omega, by omega⟩, fun hc2 => go (fun u hu => ?_), fun hc2 => ?_⟩⟩⟩
      · unfold ed at hu
        rw [mk', ← e59] at hu
        exact hu.2.2 (by rw [hu.1, hc])
      · unfold ed at hu
        rw [mk', ← e59] at hu
        rw [if_pos hu.2.1] at hc2
        exact hc2 rfl
      · have hb : tbit (ans V s p) (τ 59 j k).toNat = true := by
          apply Classical.byContradiction
          intro q
          rw [if_neg q] at hc2; omega
        have hed : ed V mo ta s k (wi V s p (τ 59 j k)) := by
          unfold ed
          rw [mk', ← e59]
          exact ⟨rfl, hb, hc⟩
        refine hT _ _ t1' (by rw [u34]; omega) (by rw [u34]; omega) (fun x u hx => ?_) ⟨p, p1, p2, τ 59 j k, p4, p5, rfl, hb⟩ hc
        by_cases c : x = s
        · subst c
          refine ⟨fun ⟨k', r1, r2, r3⟩ => ?_, fun z => ?_⟩
          · rw [u34] at r1
            by_cases c : (k' : Int) < σ 34 i x.toNat
            · exact Or.inl ⟨k', c, r2, r3⟩
            · by_cases c2 : k' = k
              · subst c2
                exact Or.inr ⟨rfl, by rw [r3.1, hed.1]⟩
              · exact absurd r3 (t3 k' (by omega) (by omega) u)
          · rcases z with ⟨k', r1, r2, r3⟩ | ⟨-, z⟩
            · exact ⟨k', by rw [u34]; omega, r2, r3⟩
            · rw [z]; exact ⟨k, by rw [u34]; omega, by omega, hed⟩
        · rw [xo _ t1' x u hx c]
          exact ⟨Or.inl, fun z => z.resolve_right (fun z => c z.1)⟩
  have e : σ 34 i s.toNat = (((σ 34 i s.toNat).toNat : Nat) : Int) := by omega
  exact key (M.toNat - (σ 34 i s.toNat).toNat) (σ 34 i s.toNat).toNat (by omega) (by omega) σ FR.rf e (fun k' h1 h2 => by omega)
theorem c_enter (ht : isSt V t) (hV : VOK V) (h13 : 0 ≤ σ 5 i 13 ∧ σ 5 i 13 < 1024) (h11 : 0 ≤ σ 5 i 11 ∧ σ 5 i 11 < 1024) (h12 : 0 ≤ σ 5 i 12 ∧ σ 5 i 12 < 1024) (h : ∀ υ, FR (rsP i) σ υ → (∀ x, υ 32 i x = if x = t.toNat then σ 5 i 13 + 1 else σ 32 i x) → (∀ x, υ 33 i x = if x = t.toNat then σ 5 i 13 + 1 else σ 33 i x) → (∀ x, υ 34 i x = if x = t.toNat then 0 else σ 34 i x) → (∀ x, υ 35 i x = if x = (σ 5 i 11).toNat then t else σ 35 i x) → (∀ x, υ 36 i x = if x = (σ 5 i 12).toNat then t else σ 36 i x) → (υ 27 i = σ 27 i ∧ υ 28 i = σ 28 i) → (υ 5 i 0 = σ 5 i 0 ∧ υ 5 i 11 = σ 5 i 11 + 1 ∧ υ 5 i 12 = σ 5 i 12 + 1 ∧ υ 5 i 13 = σ 5 i 13 + 1) → Q (.inl none) υ) : WP mX4_enter 0 [vR 5 i, vI t] [] σ Q := by
  have htb := st_bd hV ht
  refine b_X4_enter_0 ⟨by unfold in32; omega, ⟨by omega, by omega⟩, ⟨by omega, by omega⟩, ⟨by omega, by omega⟩, fun z => by omega, fun _ => ⟨fun z => by omega, fun _ => ⟨⟨by omega, by omega⟩, by unfold in32; omega, ⟨by omega, by omega⟩, by unfold in32; omega, ?_⟩⟩⟩
  refine h _ ?_ (fun x => ?_) (fun x => ?_) (fun x => ?_) (fun x => ?_) (fun x => ?_) ⟨?_, ?_⟩ ⟨?_, ?_, ?_, ?_⟩
  · exact (((((((FR.rf.u ⟨rfl, by omega⟩).u ⟨rfl, by omega⟩).u ⟨rfl, by omega⟩).u ⟨rfl, by omega⟩).u ⟨rfl, by omega⟩).u ⟨rfl, by omega⟩).u ⟨rfl, by omega⟩).u ⟨rfl, by omega⟩
  · simp [up]
  · simp [up]
  · simp [up]
  · simp [up]
  · simp [up]
  · funext x; simp [up]
  · funext x; simp [up]
  · simp [up]
  · simp [up]
  · simp [up]
  · simp [up]
theorem c_close {o c0 : Nat} {nu : Int} {xe : Int → Int → Prop} (ho : σ 5 i 12 = o) (ho2 : o ≤ 1024) (hnu : σ 5 i 0 = nu) (hnu2 : 0 ≤ nu ∧ nu ≤ 1024) (hb : ∀ a : Nat, a < o → 0 ≤ σ 36 i a ∧ σ 36 i a < 1024) (hc0 : c0 < o) (hcs : σ 36 i c0 = s) (hcu : ∀ a : Nat, c0 < a → a < o → σ 36 i a ≠ s) (hJ : ∀ a : Nat, a < o → JO (fun x => σ 28 i x.toNat) nu (fun t => xe (σ 36 i a) t ∧ σ 28 i t.toNat ≠ -5) (σ 27 i (σ 36 i a).toNat)) (h : ∀ υ g, FR (rsP i) σ υ → JO (fun x => σ 28 i x.toNat) nu (fun t => ∃ a : Nat, c0 ≤ a ∧ a < o ∧ xe (σ 36 i a) t ∧ σ 28 i t.toNat ≠ -5) g → (∀ x : Nat, (∃ a : Nat, c0 ≤ a ∧ a < o ∧ (σ 36 i a).toNat = x) → υ 28 i x = (if g = -1 then nu else g) ∧ υ 27 i x = (if g = -1 then nu else -1)) → (∀ x : Nat, (¬ ∃ a : Nat, c0 ≤ a ∧ a < o ∧ (σ 36 i a).toNat = x) → υ 28 i x = σ 28 i x ∧ υ 27 i x = σ 27 i x) → (∀ c, 32 ≤ c → c ≤ 36 → υ c i = σ c i) → (υ 5 i 0 = (if g = -1 then nu + 1 else nu) ∧ υ 5 i 11 = σ 5 i 11 ∧ υ 5 i 12 = c0 ∧ υ 5 i 13 = σ 5 i 13) → Q (.inl none) υ) : WP mX4_close 0 [vR 5 i, vI s, vU, vU, vU, vU, vU] [] σ Q := by
  refine b_X4_close_0 ?_
  rw [ho]
  -- the second pass
  have p2 : ∀ g x5 : Int, JO (fun x => σ 28 i x.toNat) nu (fun t => ∃ a : Nat, c0 ≤ a ∧ a < o ∧ xe (σ 36 i a) t ∧ σ 28 i t.toNat ≠ -5) g → (x5 ≠ 0 ↔ g = -1) → ∀ n a : Nat, n + a = o → c0 ≤ a → ∀ τ, FR (rsP i) σ τ → (∀ x : Nat, (∃ b : Nat, c0 ≤ b ∧ b < a ∧ (σ 36 i b).toNat = x) → τ 28 i x = (if g = -1 then nu else g) ∧ τ 27 i x = (if g = -1 then nu else -1)) → (∀ x : Nat, (¬ ∃ b : Nat, c0 ≤ b ∧ b < a ∧ (σ 36 i b).toNat = x) → τ 28 i x = σ 28 i x ∧ τ 27 i x = σ 27 i x) → (∀ c, 32 ≤ c → c ≤ 36 → τ c i = σ c i) → (∀ k, τ 5 i k = σ 5 i k) → WP mX4_close 73 [vR 5 i, vU, vI (c0 : Int), vI g, vU, vI x5, vI (a : Int)] [] τ Q := by
    intro g x5 hg h5 n
    induction n with
    | zero =>
      intro a ha hca τ t1 t2 t3 t4 t5
      have hao : a = o := by omega
      subst hao
      refine b_X4_close_73 ⟨fun _ => ⟨fun z => ?_, fun z => ⟨?_, ?_⟩⟩, fun z => by rw [t5, ho] at z; omega⟩
      · have gn : g ≠ -1 := fun q => absurd z (h5.mpr q)
        refine h _ g (t1.u ⟨rfl, by omega⟩) hg (fun x hx => ?_) (fun x hx => ?_) (fun c h1 h2 => ?_) ⟨?_, ?_, ?_, ?_⟩
        · rw [up_c (by omega), up_c (by omega)]; exact t2 x hx
        · rw [up_c (by omega), up_c (by omega)]; exact t3 x hx
        · rw [← t4 c h1 h2]; funext x; rw [up_c (by omega)]
        · rw [if_neg gn, up_j (by omega), t5, hnu]
        · rw [up_j (by omega), t5]
        · rw [up_s]
        · rw [up_j (by omega), t5]
      · rw [t5, hnu]; unfold in32; omega
      · have gn : g = -1 := h5.mp z
        refine h _ g ((t1.u ⟨rfl, by omega⟩).u ⟨rfl, by omega⟩) hg (fun x hx => ?_) (fun x hx => ?_) (fun c h1 h2 => ?_) ⟨?_, ?_, ?_, ?_⟩
        · rw [up_c (by omega), up_c (by omega), up_c (by omega), up_c (by omega)]; exact t2 x hx
        · rw [up_c (by omega), up_c (by omega), up_c (by omega), up_c (by omega)]; exact t3 x hx
        · rw [← t4 c h1 h2]; funext x; rw [up_c (by omega), up_c (by omega)]
        · rw [if_pos gn, up_j (by omega), up_s, t5, hnu]
        · rw [up_j (by omega), up_j (by omega), t5]
        · rw [up_s]
        · rw [up_j (by omega), up_j (by omega), t5]
    | succ n ih =>
      intro a ha hca τ t1 t2 t3 t4 t5
      have e36 : τ 36 i a = σ 36 i a := by rw [t4 36 (by omega) (by omega)]
      have hba := hb a (by omega)
      have nxt : ∀ v w : Int, v = (if g = -1 then nu else g) → w = (if g = -1 then nu else -1) → WP mX4_close 73 [vR 5 i, vU, vI (c0 : Int), vI g, vU, vI x5, vI ((a : Int) + 1)] [] (up (up τ 28 i (σ 36 i a).toNat v) 27 i (σ 36 i a).toNat w) Q := fun v w hv hw => by
        rw [show ((a : Int) + 1) = ((a + 1 : Nat) : Int) by push_cast; rfl]
        have e28 : ∀ x, (up (up τ 28 i (σ 36 i a).toNat v) 27 i (σ 36 i a).toNat w) 28 i x = if x = (σ 36 i a).toNat then v else τ 28 i x := fun x => by simp [up]
        have e27 : ∀ x, (up (up τ 28 i (σ 36 i a).toNat v) 27 i (σ 36 i a).toNat w) 27 i x = if x = (σ 36 i a).toNat then w else τ 27 i x := fun x => by simp [up]
        refine ih (a + 1) (by omega) (by omega) _ ((t1.u ⟨rfl, by omega⟩).u ⟨rfl, by omega⟩) (fun x hx => ?_) (fun x hx => ?_) (fun c h1 h2 => ?_) (fun k => ?_)
        · rw [e28, e27]
          by_cases c : x = (σ 36 i a).toNat
          · rw [if_pos c, if_pos c]; exact ⟨hv, hw⟩
          · rw [if_neg c, if_neg c]
            obtain ⟨b, b1, b2, b3⟩ := hx
            exact t2 x ⟨b, b1, by
              apply Classical.byContradiction
              intro q
              exact c (by rw [← b3, show b = a by omega]), b3⟩
        · have c : x ≠ (σ 36 i a).toNat := fun q => hx ⟨a, by omega, by omega, q.symm⟩
          rw [e28, e27, if_neg c, if_neg c]
          exact t3 x (fun ⟨b, b1, b2, b3⟩ => hx ⟨b, b1, by omega, b3⟩)
        · rw [← t4 c h1 h2]; funext x; rw [up_c (by omega), up_c (by omega)]
        · rw [up_c (by omega), up_c (by omega)]; exact t5 k
      refine b_X4_close_73 ⟨fun z => by rw [t5, ho] at z; omega, fun _ => ⟨⟨by omega, by omega⟩, fun z => ?_, fun z => ?_⟩⟩
      · have gn : g ≠ -1 := fun q => absurd z (h5.mpr q)
        refine b_X4_close_106 ?_
        simp only [Int.toNat_natCast]
        rw [e36]
        exact ⟨⟨by omega, by omega⟩, ⟨by omega, by omega⟩, fun _ => ⟨⟨by omega, by omega⟩, by unfold in32; omega, nxt g (-1) (by rw [if_neg gn]) (by rw [if_neg gn])⟩, fun q => absurd z q⟩
      · have gn : g = -1 := h5.mp z
        refine b_X4_close_106 ?_
        simp only [Int.toNat_natCast]
        rw [e36, t5, hnu]
        exact ⟨⟨by omega, by omega⟩, ⟨by omega, by omega⟩, fun q => absurd q z, fun _ => ⟨⟨by omega, by omega⟩, by unfold in32; omega, nxt nu nu (by rw [if_pos gn]) (by rw [if_pos gn])⟩⟩
  have start : ∀ g, JO (fun x => σ 28 i x.toNat) nu (fun t => ∃ a : Nat, c0 ≤ a ∧ a < o ∧ xe (σ 36 i a) t ∧ σ 28 i t.toNat ≠ -5) g → WP mX4_close 10 [vR 5 i, vI s, vI (c0 : Int), vI g, vI 0, vU, vU] [] σ Q := fun g hg => by
    refine b_X4_close_10 ⟨fun _ => ⟨fun z => ?_, fun z => ?_⟩, fun z => absurd rfl z⟩
    · exact p2 g 0 hg ⟨fun q => absurd rfl q, fun q => absurd q z⟩ (o - c0) c0 (by omega) (by omega) σ FR.rf (fun x ⟨b, b1, b2, _⟩ => by omega) (fun _ _ => ⟨rfl, rfl⟩) (fun _ _ _ => rfl) (fun _ => rfl)
    · exact p2 g 1 hg ⟨fun _ => z, fun _ => by omega⟩ (o - c0) c0 (by omega) (by omega) σ FR.rf (fun x ⟨b, b1, b2, _⟩ => by omega) (fun _ _ => ⟨rfl, rfl⟩) (fun _ _ _ => rfl) (fun _ => rfl)
  have p1 : ∀ n : Nat, ∀ g, c0 + n + 1 ≤ o → JO (fun x => σ 28 i x.toNat) nu (fun t => ∃ a : Nat, c0 + n + 1 ≤ a ∧ a < o ∧ xe (σ 36 i a) t ∧ σ 28 i t.toNat ≠ -5) g → WP mX4_close 10 [vR 5 i, vI s, vI ((c0 + n + 1 : Nat) : Int), vI g, vI 1, vU, vU] [] σ Q := by
    intro n
    have stp1 : ∀ m g, m < o → JO (fun x => σ 28 i x.toNat) nu (fun t => ∃ a : Nat, m + 1 ≤ a ∧ a < o ∧ xe (σ 36 i a) t ∧ σ 28 i t.toNat ≠ -5) g → JO (fun x => σ 28 i x.toNat) nu (fun t => ∃ a : Nat, m ≤ a ∧ a < o ∧ xe (σ 36 i a) t ∧ σ 28 i t.toNat ≠ -5) (jn g (σ 27 i (σ 36 i m).toNat)) := fun m g hm hg => by
      refine hg.join (hJ m hm) (fun t => ⟨fun ⟨a, a1, a2, a3, a4⟩ => ?_, fun z => ?_⟩)
      · by_cases c : a = m
        · rw [c] at a3; exact Or.inr ⟨a3, a4⟩
        · exact Or.inl ⟨a, by omega, a2, a3, a4⟩
      · rcases z with ⟨a, a1, a2, a3, a4⟩ | z
        · exact ⟨a, by omega, a2, a3, a4⟩
        · exact ⟨m, by omega, hm, z.1, z.2⟩
    induction n with
    | zero =>
      intro g hno hg
      have hbc := hb c0 hc0
      refine b_X4_close_10 ?_
      rw [show (((c0 + 0 + 1 : Nat) : Int) + -1) = (c0 : Int) by push_cast; omega, Int.toNat_natCast, hcs]
      rw [hcs] at hbc
      refine ⟨fun z => by omega, fun _ => ⟨fun z => by omega, fun _ => ⟨by unfold in32; omega, ⟨by omega, by omega⟩, ⟨by omega, by omega⟩, ⟨by omega, by omega⟩, fun _ => ?_, fun z => absurd rfl z⟩⟩⟩
      have := stp1 c0 g hc0 hg
      rw [hcs] at this
      exact start _ this
    | succ n ih =>
      intro g hno hg
      have hbc := hb (c0 + n + 1) (by omega)
      have hns := hcu (c0 + n + 1) (by omega) (by omega)
      refine b_X4_close_10 ?_
      rw [show (((c0 + (n + 1) + 1 : Nat) : Int) + -1) = ((c0 + n + 1 : Nat) : Int) by push_cast; omega, Int.toNat_natCast]
      refine ⟨fun z => by omega, fun _ => ⟨fun z => by omega, fun _ => ⟨by unfold in32; omega, ⟨by omega, by omega⟩, ⟨by omega, by omega⟩, ⟨by omega, by omega⟩, fun z => absurd z hns, fun _ => ?_⟩⟩⟩
      exact ih _ (by omega) (stp1 (c0 + n + 1) g (by omega) hg)
  have := p1 (o - c0 - 1) (-1) (by omega) (Or.inl ⟨rfl, fun t ⟨a, a1, a2, _⟩ => by omega⟩)
  rw [show c0 + (o - c0 - 1) + 1 = o by omega] at this
  exact this
end CR
