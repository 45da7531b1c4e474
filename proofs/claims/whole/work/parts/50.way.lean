/-! ===== THE WAY: what it is; the model's fewest ===== -/
def NXT (V : Vy) (F : Int → Int) (q u : Int) : Prop := (∃ c, Mv V q u c ∧ F q = F u + 4096 * c + 1) ∧ ∀ w c, Mv V q w c → F q = F w + 4096 * c + 1 → u ≤ w
def WAY (V : Vy) (F : Int → Int) (s t : Int) (w : Nat → Int) (m : Nat) : Prop := w 0 = s ∧ (∀ k : Nat, k < m → isSt V (w k) ∧ NXT V F (w k) (w (k + 1))) ∧ w m = t ∧ (m : Int) = F s % 4096
def wyP (c i j : Nat) : Prop := i = 0 ∧ (c = 91 ∨ (c = 14 ∧ (j = 54 ∨ j = 55)))
section Way
variable {σ : St} {Q : Res → St → Prop} {V : Vy} {s t : Int}
theorem NXT.un {F : Int → Int} {q u u' : Int} (h : NXT V F q u) (h' : NXT V F q u') : u = u' := by
  obtain ⟨⟨c, c1, c2⟩, c3⟩ := h
  obtain ⟨⟨d, d1, d2⟩, d3⟩ := h'
  have := c3 u' d d1 d2
  have := d3 u c c1 c2
  omega
theorem NXT.cg (hV : VOK V) {F G : Int → Int} {q u : Int} (hq : isSt V q) (hFG : ∀ x, isSt V x → F x = G x) (h : NXT V F q u) : NXT V G q u := by
  obtain ⟨⟨c, c1, c2⟩, c3⟩ := h
  exact ⟨⟨c, c1, by rw [← hFG q hq, ← hFG u (c1.st hV hq)]; exact c2⟩, fun w d d1 d2 => c3 w d d1 (by rw [hFG q hq, hFG w (d1.st hV hq)]; exact d2)⟩
theorem WAY.un (hV : VOK V) {F G : Int → Int} {w w' : Nat → Int} {m m' : Nat} (hs : isSt V s) (hFG : ∀ x, isSt V x → F x = G x) (h : WAY V F s t w m) (h' : WAY V G s t w' m') : m = m' ∧ ∀ k, k ≤ m → w k = w' k := by
  obtain ⟨a1, a2, a3, a4⟩ := h
  obtain ⟨b1, b2, b3, b4⟩ := h'
  have em : m = m' := by
    have := hFG s hs
    rw [this] at a4; omega
  refine ⟨em, fun k => ?_⟩
  induction k with
  | zero => intro _; rw [a1, b1]
  | succ k ih =>
    intro hk
    have e := ih (by omega)
    have h1 := a2 k (by omega)
    have h2 := b2 k (by omega)
    rw [← e] at h2
    exact (h1.2.cg hV h1.1 hFG).un h2.2
theorem MT.wy {τ : St} (hT : MT σ V) (h : FR wyP σ τ) : MT τ V := hT.fr h (fun c j hc z => by unfold wyP at z; omega)
theorem d_trace {F : Int → Int} (hV : VOK V) (hT : MT σ V) (hR : MRP σ V) (ht : isSt V t) (hs : isSt V s) (hF : ∀ x, far σ x = F x) (hD : DIST V (fun x => x = t) F) (h : ∀ τ, FR wyP σ τ → τ 14 0 55 = 1 → τ 14 0 54 = F s % 4096 → WAY V F s t (τ 91 0) (F s % 4096).toNat → Q (.inl (some (vI (F s / 4096)))) τ) : WP mX13_fewest 28 [vR 14 0, vI s, vI t, vU, vU, vU, vU, vU] [] σ Q := by
  have hsb := st_bd hV hs
  have hph := ph_bd hV
  have hha := hV.ha
  have hpe := hV.pe
  have hcm := hD.cm hV
  have hle := hD.le hV ht rfl
  have hFb : ∀ x, isSt V x → 0 ≤ F x ∧ F x ≤ 122890 := fun x hx => ⟨(hD x hx).1, hle x hx⟩
  have f90 : ∀ τ, FR wyP σ τ → ∀ x : Int, τ 90 0 x.toNat = F x := fun τ f x => by
    rw [f 90 0 _ (fun z => by unfold wyP at z; omega)]; exact hF x
  -- one more MOVE
  have inner : ∀ q, isSt V q → q ≠ t → ∀ n a : Nat, ((n + a : Nat) : Int) = pe V * ha V → ∀ τ b, FR wyP σ τ → (0 ≤ τ 14 0 54 ∧ τ 14 0 54 ≤ 1022) → ((b = -1 ∧ ∀ a' : Nat, a' < a → stV V q a' ≠ -1 → F (stV V q a') + csV V q a' ≠ F q) ∨ ((∃ a' : Nat, a' < a ∧ stV V q a' = b ∧ b ≠ -1 ∧ F b + csV V q a' = F q) ∧ ∀ a' : Nat, a' < a → stV V q a' ≠ -1 → F (stV V q a') + csV V q a' = F q → b ≤ stV V q a')) → (∀ u, NXT V F q u → isSt V u → WP mX13_fewest 68 [vR 14 0, vU, vI t, vI (F s / 4096), vI u, vU, vU, vU] [] (up (up τ 14 0 54 ((τ 14 0 54) + 1)) 91 0 (((τ 14 0 54) + 1).toNat) u) Q) → WP mX13_fewest 80 [vR 14 0, vU, vI t, vI (F s / 4096), vI q, vI b, vI (a : Int), vU] [] τ Q := by
    intro q hq hqt n
    have hqb := st_bd hV hq
    induction n with
    | zero =>
      intro a ha' τ b f1 hm hb go
      have hT' := hT.wy f1
      refine b_X13_fewest_80 ?_
      rw [hT'.pe, hT'.ha]
      refine ⟨by unfold in32; omega, fun _ => ⟨by unfold in32; omega, ⟨by omega, by omega⟩, ?_⟩, fun z => by omega⟩
      obtain ⟨u, c, u1, u2⟩ := (hD q hq).2.2.2 hqt
      have hub := u1.bd hV
      have une : u ≠ q := fun z => by rw [z] at u2; omega
      obtain ⟨k, k1, k2, k3⟩ := mv_stV hV hq u1 une
      have hun := (st_bd hV (u1.st hV hq)).1
      rcases hb with ⟨-, hb⟩ | ⟨⟨a', a1, a2, a3, a4⟩, hb⟩
      · exact absurd (by rw [k2, k3]; omega) (hb k (by omega) (by rw [k2]; omega))
      · obtain ⟨-, d, d1, d2⟩ := stV_mv hV (s := q) (k := a') (by omega) (by omega) (by rw [a2]; exact a3)
        rw [a2] at d1
        refine go b ⟨⟨d, d1, by omega⟩, fun w c' w1 w2 => ?_⟩ (d1.st hV hq)
        have wne : w ≠ q := fun z => by have := w1.bd hV; rw [z] at w2; omega
        obtain ⟨k', k1', k2', k3'⟩ := mv_stV hV hq w1 wne
        have := hb k' (by omega) (by rw [k2']; have := (st_bd hV (w1.st hV hq)).1; omega) (by rw [k2', k3']; omega)
        rw [k2'] at this; exact this
    | succ n ih =>
      intro a ha' τ b f1 hm hb go
      have hT' := hT.wy f1
      have hR' : MRP τ V := hR.fr f1 (fun c j hc z => by unfold wyP at z; omega)
      have k0 : (0 : Int) ≤ a := by omega
      have k1 : (a : Int) < pe V * ha V := by omega
      have hkb := kk_bd hV k0 k1
      have hsd := stp_sides hV hT' hq k0 k1
      have hslb := hV.sl ((a : Int) % ha V).toNat (by omega)
      refine b_X13_fewest_80 ?_
      rw [hT'.pe, hT'.ha] at *
      rw [stp_eq hV hT' k0 k1, cst_eq hV hT' hR' hq k0 k1, f90 τ f1, f90 τ f1]
      have nxt : ∀ b', ((b' = -1 ∧ ∀ a' : Nat, a' < a + 1 → stV V q a' ≠ -1 → F (stV V q a') + csV V q a' ≠ F q) ∨ ((∃ a' : Nat, a' < a + 1 ∧ stV V q a' = b' ∧ b' ≠ -1 ∧ F b' + csV V q a' = F q) ∧ ∀ a' : Nat, a' < a + 1 → stV V q a' ≠ -1 → F (stV V q a') + csV V q a' = F q → b' ≤ stV V q a')) → in32 ((a : Int) + 1) ∧ WP mX13_fewest 80 [vR 14 0, vU, vI t, vI (F s / 4096), vI q, vI b', vI ((a : Int) + 1), vU] [] τ Q := fun b' hb' => ⟨by unfold in32; omega, ih (a + 1) (by omega) τ b' f1 hm hb' go⟩
      have skip : (stV V q a = -1 ∨ F (stV V q a) + csV V q a ≠ F q) → in32 ((a : Int) + 1) ∧ WP mX13_fewest 80 [vR 14 0, vU, vI t, vI (F s / 4096), vI q, vI b, vI ((a : Int) + 1), vU] [] τ Q := fun hz => nxt b (by
        rcases hb with ⟨b1, b2⟩ | ⟨⟨a', a1, a2, a3, a4⟩, b2⟩
        · refine Or.inl ⟨b1, fun a' ha1 z => ?_⟩
          by_cases e : a' = a
          · rw [e] at z ⊢
            rcases hz with w | w
            · exact absurd w z
            · exact w
          · exact b2 a' (by omega) z
        · refine Or.inr ⟨⟨a', by omega, a2, a3, a4⟩, fun a'' ha1 z z2 => ?_⟩
          by_cases e : a'' = a
          · rw [e] at z z2
            rcases hz with w | w
            · exact absurd w z
            · exact absurd z2 w
          · exact b2 a'' (by omega) z z2)
      have take : stV V q a ≠ -1 → F (stV V q a) + csV V q a = F q → (b = -1 ∨ stV V q a < b) → in32 ((a : Int) + 1) ∧ WP mX13_fewest 80 [vR 14 0, vU, vI t, vI (F s / 4096), vI q, vI (stV V q a), vI ((a : Int) + 1), vU] [] τ Q := fun z1 z2 z3 => nxt _ (Or.inr ⟨⟨a, by omega, rfl, z1, z2⟩, fun a'' ha1 w1 w2 => by
          by_cases e : a'' = a
          · rw [e]; omega
          · rcases hb with ⟨b1, b2⟩ | ⟨⟨a', a1, a2, a3, a4⟩, b2⟩
            · exact absurd w2 (b2 a'' (by omega) w1)
            · have := b2 a'' (by omega) w1 w2
              omega⟩)
      refine ⟨by unfold in32; omega, fun z => by omega, fun _ => ⟨hsd, fun hc => skip (Or.inl hc), fun hc => ?_⟩⟩
      obtain ⟨hne, c, hmv, hcs⟩ := stV_mv hV k0 k1 hc
      have hst := hmv.st hV hq
      have htb := st_bd hV hst
      have hmb := hmv.bd hV
      have h1 := hFb _ hst
      have h2 := hFb _ hq
      refine ⟨⟨by omega, by omega⟩, fun z => by omega, fun _ => ⟨⟨by omega, by omega⟩, ⟨by omega, by omega, by omega, by omega, by omega, by omega, by rw [hT'.sl _ (by omega)]; omega, by rw [hT'.sl _ (by omega)]; omega⟩, by unfold in32; omega, ⟨by omega, by omega⟩, fun he => ⟨fun hb1 => take hc he (Or.inl hb1), fun hb1 => ⟨fun hb2 => nxt b ?_, fun hb2 => take hc he (Or.inr hb2)⟩⟩, fun hne => skip (Or.inr hne)⟩⟩
      rcases hb with ⟨b1, b2⟩ | ⟨⟨a', a1, a2, a3, a4⟩, b2⟩
      · exact absurd b1 hb1
      · refine Or.inr ⟨⟨a', by omega, a2, a3, a4⟩, fun a'' ha1 w1 w2 => ?_⟩
        by_cases e : a'' = a
        · rw [e]; exact hb2
        · exact b2 a'' (by omega) w1 w2
  have outer : ∀ (n k : Nat) (q : Int) (τ : St), ((n + k : Nat) : Int) = F s % 4096 → isSt V q → F q % 4096 = n → FR wyP σ τ → τ 14 0 54 = k → τ 91 0 0 = s → τ 91 0 k = q → (∀ a : Nat, a < k → isSt V (τ 91 0 a) ∧ NXT V F (τ 91 0 a) (τ 91 0 (a + 1))) → WP mX13_fewest 68 [vR 14 0, vU, vI t, vI (F s / 4096), vI q, vU, vU, vU] [] τ Q := by
    intro n
    induction n with
    | zero =>
      intro k q τ hk hq hn f1 t54 t0 tk tw
      have hqt : q = t := by
        apply Classical.byContradiction
        intro z
        obtain ⟨u, c, u1, u2, u3, u4⟩ := (hcm q hq).2 z
        have := hFb _ (u1.st hV hq)
        omega
      refine b_X13_fewest_68 ⟨fun _ => ?_, fun z => absurd hqt z⟩
      have e91 : (up τ 14 0 55 1) 91 0 = τ 91 0 := by funext x; exact up_c (by omega)
      refine h _ (f1.u ⟨rfl, by omega⟩) (up_s _ _ _ _ _) (by rw [up_j (by omega), t54]; omega) ?_
      rw [e91]
      exact ⟨t0, fun a ha' => tw a (by omega), by rw [show (F s % 4096).toNat = k by omega, tk, hqt], by omega⟩
    | succ n ih =>
      intro k q τ hk hq hn f1 t54 t0 tk tw
      have hs1 := (hcm s hs).1
      have hqt : q ≠ t := fun z => by
        rw [z, (hD t ht).2.1 rfl] at hn
        omega
      refine b_X13_fewest_68 ⟨fun z => absurd z hqt, fun _ => ?_⟩
      refine inner q hq hqt (pe V * ha V).toNat 0 (by omega) τ (-1) f1 ⟨by omega, by omega⟩ (Or.inl ⟨rfl, fun a' ha' => by omega⟩) (fun u hu hust => ?_)
      obtain ⟨c, c1, c2⟩ := hu.1
      have hub := (hcm u hust).1
      have hcb := c1.bd hV
      rw [t54, show (((k : Int) + 1)).toNat = k + 1 by omega]
      have e91 : ∀ x, (up (up τ 14 0 54 ((k : Int) + 1)) 91 0 (k + 1) u) 91 0 x = if x = k + 1 then u else τ 91 0 x := fun x => by simp [up]
      refine ih (k + 1) u _ (by omega) hust (by omega) ((f1.u ⟨rfl, by omega⟩).u ⟨rfl, by omega⟩) (by rw [up_c (by omega), up_s]; push_cast; rfl) (by rw [e91, if_neg (by omega)]; exact t0) (by rw [e91, if_pos rfl]) (fun a ha' => ?_)
      rw [e91, e91, if_neg (by omega)]
      by_cases e : a = k
      · rw [if_pos (by omega), e, tk]; exact ⟨hq, hu⟩
      · rw [if_neg (by omega)]; exact tw a (by omega)
  have hFs := hFb s hs
  refine b_X13_fewest_28 ?_
  rw [show σ 90 0 s.toNat = F s from hF s]
  refine ⟨⟨by omega, by omega⟩, fun _ => ⟨⟨by omega, by omega⟩, by omega, ?_⟩, fun z => by omega⟩
  exact outer (F s % 4096).toNat 0 s _ (by omega) hs (by omega) ((FR.rf.u ⟨rfl, by omega⟩).u ⟨rfl, by omega⟩) (by rw [up_c (by omega), up_s]; rfl) (up_s _ _ _ _ _) (up_s _ _ _ _ _) (fun a ha' => by omega)
end Way
