/-! ===== THE WAY: the class' countMoves ===== -/
def tg (V : Vy) (K : Int → Int) (u s : Int) : Prop := ∃ c, Mv V u s c ∧ K u = K s + c
def Hp (σ : St) (i : Nat) (u : Int) : Int := σ 38 i u.toNat
def hpP (i : Nat) (c i' j : Nat) : Prop := i' = i ∧ (c = 38 ∨ c = 39 ∨ (c = 6 ∧ j = 3))
def BQ (V : Vy) (K : Int → Int) (t : Int) (hp : Int → Int) (qu : Nat → Int) (a q : Nat) : Prop := (∀ b : Nat, b < q → isSt V (qu b) ∧ 0 ≤ hp (qu b) ∧ hp (qu b) ≤ b) ∧ (∀ b c : Nat, b < c → c < q → hp (qu b) ≤ hp (qu c)) ∧ (∀ c : Nat, c < q → ∀ b : Nat, a ≤ b → b < q → hp (qu c) ≤ hp (qu b) + 1) ∧ (∀ u, isSt V u → hp u ≠ 1000000 → ∃ b : Nat, b < q ∧ qu b = u) ∧ (∀ b : Nat, b < a → ∀ u, isSt V u → tg V K u (qu b) → hp u ≠ 1000000 ∧ hp u ≤ hp (qu b) + 1) ∧ (∀ u, isSt V u → hp u ≠ 1000000 → (u = t ∧ hp u = 0) ∨ ∃ s, isSt V s ∧ tg V K u s ∧ hp s ≠ 1000000 ∧ hp u = hp s + 1) ∧ q = cnt (fun k => isSt V (k : Int) ∧ hp (k : Int) ≠ 1000000) 1024 ∧ hp t = 0 ∧ a ≤ q
section Hops
variable {i j : Nat} {σ : St} {Q : Res → St → Prop} {V : Vy} {s t L : Int} {F K hp : Int → Int} {qu : Nat → Int} {a q : Nat}
/-- never fewer than the fewest -/
theorem BQ.lo (hV : VOK V) (hD : DIST V (fun x => x = t) F) (h : BQ V K t hp qu a q) (hK0 : K t = 0) : ∀ n : Nat, ∀ u, isSt V u → hp u ≠ 1000000 → hp u < n → F u ≤ 4096 * K u + hp u := by
  intro n
  induction n with
  | zero =>
    intro u hu hne hn
    obtain ⟨b, b1, b2⟩ := h.2.2.2.1 u hu hne
    have := (h.1 b b1).2.1
    rw [b2] at this; omega
  | succ n ih =>
    intro u hu hne hn
    rcases h.2.2.2.2.2.1 u hu hne with ⟨z1, z2⟩ | ⟨s, s1, ⟨c, c1, c2⟩, s3, s4⟩
    · rw [z2, z1, (hD t (by rw [← z1]; exact hu)).2.1 rfl, hK0]; omega
    · have h1 := ih s s1 s3 (by omega)
      have h2 := (hD u hu).2.2.1 s c c1
      omega
/-- those whose cost is known, and no farther than the head, are told -/
theorem BQ.up (hV : VOK V) (hD : DIST V (fun x => x = t) F) (hS : SI V (fun x => x = t) F L K) (h : BQ V K t hp qu a q) (H : Int) (hH : ∀ b : Nat, b < q → hp (qu b) < H → b < a) : ∀ n : Nat, ∀ u, isSt V u → F u / 4096 < L → F u % 4096 < n → F u % 4096 ≤ H → hp u ≠ 1000000 ∧ hp u ≤ F u % 4096 := by
  intro n
  induction n with
  | zero => intro u hu _ hn; have := (hD u hu).1; omega
  | succ n ih =>
    intro u hu hL hn hle
    by_cases c : u = t
    · rw [c, h.2.2.2.2.2.2.2.1]
      have := (hD u hu).1
      have := (hD.cm hV u hu).1
      rw [← c]
      omega
    · obtain ⟨s, k, s1, s2, s3, s4⟩ := (hD.cm hV u hu).2 c
      have hs := s1.st hV hu
      have hkb := s1.bd hV
      obtain ⟨i1, i2⟩ := ih s hs (by omega) (by omega) (by omega)
      obtain ⟨b, b1, b2⟩ := h.2.2.2.1 s hs i1
      have hba := hH b b1 (by rw [b2]; omega)
      have e1 := (hS.1 u hu).2.2.1 hL
      have e2 := (hS.1 s hs).2.2.1 (by omega)
      have := h.2.2.2.2.1 b hba u hu (by rw [b2]; exact ⟨k, s1, by omega⟩)
      rw [b2] at this
      exact ⟨this.1, by omega⟩
theorem c_reachBack (hV : VOK V) (hA : VA σ j V) (hR : REP σ j V) (hK : ∀ u, σ 37 i u.toNat = K u) (hKb : ∀ u, isSt V u → 0 ≤ K u ∧ K u ≤ 1000000) (hB : BQ V K t (Hp σ i) (σ 39 i) a q) (ha : a < q) (hq : σ 6 i 3 = q) (ht : isSt V t) (h : ∀ τ q', FR (hpP i) σ τ → τ 6 i 3 = (q' : Nat) → BQ V K t (Hp τ i) (τ 39 i) (a + 1) q' → Q (.inl none) τ) : WP mX5_reachBack 0 [vR 6 i, vR 2 j, vI (σ 39 i a), vU, vU, vU] [] σ Q := by
  have hm := hA.2.2.2.2.1
  refine b_X5_reachBack_0 ?_
  obtain ⟨hs, h0, hle⟩ := hB.1 a ha
  generalize hsv : σ 39 i a = s at *
  have hsb := st_bd hV hs
  have key : ∀ m k : Nat, ((m + k : Nat) : Int) = σ 10 j 13 → ∀ τ (q : Nat), FR (hpP i) σ τ → a < q → τ 6 i 3 = q → τ 39 i a = s → BQ V K t (Hp τ i) (τ 39 i) a q → (∀ k' : Nat, k' < k → ∀ p : Nat, (p : Int) < pe V → σ 58 j k' = p → ∀ c, Mv V (wi V s p (σ 59 j k')) s c → c = (if tbit (ans V (wi V s p (σ 59 j k')) p) (hab V s p).toNat = true then 0 else sl V (hab V s p).toNat) → K (wi V s p (σ 59 j k')) = K s + c → Hp τ i (wi V s p (σ 59 j k')) ≠ 1000000) → WP mX5_reachBack 2 [vR 6 i, vR 2 j, vI s, vI (k : Int), vU, vU] [] τ Q := by
    intro m
    induction m with
    | zero =>
      intro k hk τ q t1 haq tq ts tB t5
      have e13 : τ 10 j 13 = σ 10 j 13 := t1 _ _ _ (fun z => by unfold hpP at z; omega)
      refine b_X5_reachBack_2 ⟨fun _ => h τ q t1 tq ?_, fun z => by omega⟩
      obtain ⟨b1, b2, b3, b4, b5, b6, b7, b8, b9⟩ := tB
      refine ⟨b1, b2, fun c hc b hb hbq => b3 c hc b (by omega) hbq, b4, fun b hb u hu htg => ?_, b6, b7, b8, by omega⟩
      by_cases e : b = a
      · subst e
        rw [ts] at htg ⊢
        obtain ⟨c, c1, c2⟩ := htg
        obtain ⟨p, p1, p2, x, x0, x1, x2, x3⟩ := id c1
        have hb := hab_bd hV u p
        have ew : wi V s p (hab V u p) = u := by rw [x2, wi_wi hV hu.1.1 x0 x1, wi_self]
        have eh : hab V s p = x := by rw [x2, hab_wi_same hV hu.1.1 x0 x1]
        obtain ⟨k', k1, k2, k3⟩ := hA.2.2.2.2.2.2 p p1 p2 (hab V u p) hb.1 hb.2
        have hne := t5 k' (by omega) p p1 k2 c
        rw [k3, ew, eh] at hne
        have hne := hne c1 x3 c2
        obtain ⟨d, d1, d2⟩ := b4 u hu hne
        have := b3 d d1 b (Nat.le_refl _) haq
        rw [d2, ts] at this
        exact ⟨hne, this⟩
      · exact b5 b (by omega) u hu htg
    | succ m ih =>
      intro k hk τ q t1 haq tq ts tB t5
      have hA' : VA τ j V := hA.fr t1 (fun c k hc z => by unfold hpP at z; omega)
      have hR' : REP τ j V := hR.fr t1 (fun k z => by unfold hpP at z; omega)
      have e13 : τ 10 j 13 = σ 10 j 13 := t1 _ _ _ (fun z => by unfold hpP at z; omega)
      have e58 : τ 58 j k = σ 58 j k := t1 _ _ _ (fun z => by unfold hpP at z; omega)
      have e59 : τ 59 j k = σ 59 j k := t1 _ _ _ (fun z => by unfold hpP at z; omega)
      have e37 : ∀ u : Int, τ 37 i u.toNat = K u := fun u => by rw [t1 37 i _ (fun z => by unfold hpP at z; omega)]; exact hK u
      have hkt : (k : Int) < τ 10 j 13 := by omega
      obtain ⟨p, p1, p2, p3, p4, p5, p6, p7, p8⟩ := bes_eq hV hA' hR' hs hkt
      have hsd := bes_sides hV hA' hR' hs hkt
      have hbst := isSt_wi hV hs p1 p2 p4 p5
      have hbb := st_bd hV hbst
      have hpe := hV.pe
      have hha := hV.ha
      have hbs := hab_bd hV s p
      have hmv : Mv V (wi V s p (τ 59 j k)) s (if tbit (ans V (wi V s p (τ 59 j k)) p) (hab V s p).toNat = true then 0 else sl V (hab V s p).toNat) := ⟨p, p1, p2, hab V s p, hbs.1, hbs.2, by rw [wi_wi hV hs.1.1 p4 p5, wi_self], rfl⟩
      have hmb := hmv.bd hV
      obtain ⟨q1, q2⟩ := prc_eq hV hA' hR' hbst hs p1
      have hsl := hV.sl (hab V s p).toNat (by omega)
      have hks := hKb s hs
      have hkb := hKb _ hbst
      obtain ⟨b1, b2, b3, b4, b5, b6, b7, b8, b9⟩ := id tB
      have hqb : q ≤ 1024 := by rw [b7]; exact cnt_bd _ _
      have hsa := b1 a haq
      rw [ts] at hsa
      refine b_X5_reachBack_2 ?_
      simp only [Int.toNat_natCast]
      rw [p8]
      rw [p8] at hsd
      rw [p3] at hsd ⊢
      rw [e13, tq]
      have uniqp : ∀ p' : Nat, σ 58 j k = p' → p' = p := fun p' hp' => by omega
      have go : ∀ υ (q' : Nat), FR (hpP i) σ υ → a < q' → υ 6 i 3 = q' → υ 39 i a = s → BQ V K t (Hp υ i) (υ 39 i) a q' → (∀ w, Hp τ i w ≠ 1000000 → Hp υ i w ≠ 1000000) → (K (wi V s p (τ 59 j k)) = K s + (if tbit (ans V (wi V s p (τ 59 j k)) p) (hab V s p).toNat = true then 0 else sl V (hab V s p).toNat) → Hp υ i (wi V s p (τ 59 j k)) ≠ 1000000) → in32 ((k : Int) + 1) ∧ WP mX5_reachBack 2 [vR 6 i, vR 2 j, vI s, vI ((k : Int) + 1), vU, vU] [] υ Q := fun υ q' u1 u2 u3 u4 u5 u6 u7 => ⟨by unfold in32; omega, ih (k + 1) (by omega) υ q' u1 u2 u3 u4 u5 (fun k' hk' p' hp1 hp' c c1 c2 c3 => by
        by_cases e : k' = k
        · subst e
          rw [uniqp p' hp', ← e59] at c2 c3 ⊢
          exact u7 (by rw [← c2]; exact c3)
        · exact u6 _ (t5 k' (by omega) p' hp1 hp' c c1 c2 c3))⟩
      refine ⟨fun z => by omega, fun _ => ⟨hsd, ⟨by omega, by omega⟩, fun hne => ?_, fun heq => ⟨fun hfull => ?_, fun hroom => ?_⟩⟩⟩
      · refine b_X5_reachBack_47 (b_X5_reachBack_48 ⟨fun _ => ?_, fun z => absurd rfl z⟩)
        exact go τ q t1 haq tq ts tB (fun _ z => z) (fun _ => hne)
      · have heq' : Hp τ i (wi V s p (τ 59 j k)) = 1000000 := heq
        have := cnt_lt (P := fun k => isSt V (k : Int) ∧ Hp τ i (k : Int) ≠ 1000000) (Q := fun _ => True) (m := (wi V s p (τ 59 j k)).toNat) (n := 1024) (by omega) (fun _ _ _ => trivial) trivial (fun z => by rw [Int.toNat_of_nonneg hbb.1] at z; exact z.2 heq')
        have := cnt_bd (fun _ => True) 1024
        omega
      · refine b_X5_reachBack_48 ?_
        simp only [Int.toNat_natCast]
        rw [p3, q1, q2, e37, e37, tq]
        have heq' : Hp τ i (wi V s p (τ 59 j k)) = 1000000 := heq
        refine ⟨fun z => by omega, fun _ => ⟨⟨by omega, by omega⟩, ⟨by omega, by omega⟩, ⟨by omega, by omega⟩, ⟨by omega, by omega, by omega, by omega, by omega, by omega, by omega, by omega⟩, by unfold in32; omega, fun hnt => ?_, fun htt => ⟨⟨by omega, by omega⟩, ?_, ⟨by omega, by omega⟩, ⟨by omega, by omega⟩, by unfold in32; omega, ?_⟩⟩⟩
        · exact go τ q t1 haq tq ts tB (fun _ z => z) (fun z => absurd z hnt)
        · have : Hp τ i s = τ 38 i s.toNat := rfl
          unfold in32; omega
        · generalize hbv : wi V s p (τ 59 j k) = bf at *
          generalize (if tbit (ans V bf p) (hab V s p).toNat = true then 0 else sl V (hab V s p).toNat) = cv at *
          rw [Int.toNat_natCast]
          have u38 : ∀ u, isSt V u → Hp (up (up (up τ 38 i bf.toNat (τ 38 i s.toNat + 1)) 39 i q bf) 6 i 3 ((q : Int) + 1)) i u = if u = bf then Hp τ i s + 1 else Hp τ i u := fun u hu => by
            unfold Hp
            rw [up_c (by omega), up_c (by omega)]
            by_cases e : u = bf
            · rw [if_pos e, e, up_s]
            · rw [if_neg e, up_j (ne_nat hu hbst e)]
          have u38' : ∀ u : Int, u.toNat ≠ bf.toNat → Hp (up (up (up τ 38 i bf.toNat (τ 38 i s.toNat + 1)) 39 i q bf) 6 i 3 ((q : Int) + 1)) i u = Hp τ i u := fun u hu => by
            unfold Hp
            rw [up_c (by omega), up_c (by omega), up_j hu]
          have u39 : ∀ x, (up (up (up τ 38 i bf.toNat (τ 38 i s.toNat + 1)) 39 i q bf) 6 i 3 ((q : Int) + 1)) 39 i x = if x = q then bf else τ 39 i x := fun x => by simp [up]
          have u6 : (up (up (up τ 38 i bf.toNat (τ 38 i s.toNat + 1)) 39 i q bf) 6 i 3 ((q : Int) + 1)) 6 i 3 = ((q + 1 : Nat) : Int) := by rw [up_s]; push_cast; rfl
          have uF : FR (hpP i) σ (up (up (up τ 38 i bf.toNat (τ 38 i s.toNat + 1)) 39 i q bf) 6 i 3 ((q : Int) + 1)) := ((t1.u ⟨rfl, by omega⟩).u ⟨rfl, by omega⟩).u ⟨rfl, by omega⟩
          generalize (up (up (up τ 38 i bf.toNat (τ 38 i s.toNat + 1)) 39 i q bf) 6 i 3 ((q : Int) + 1)) = υ at *
          have qne : ∀ b, b < q → τ 39 i b ≠ bf := fun b hb z => by
            have := b1 b hb
            rw [z, heq'] at this; omega
          have hq' : ∀ b, b < q → υ 39 i b = τ 39 i b ∧ Hp υ i (τ 39 i b) = Hp τ i (τ 39 i b) := fun b hb => ⟨by rw [u39, if_neg (by omega)], by rw [u38 _ (b1 b hb).1, if_neg (qne b hb)]⟩
          have hbf : Hp υ i bf = Hp τ i s + 1 := by rw [u38 bf hbst, if_pos rfl]
          have hqq : υ 39 i q = bf := by rw [u39, if_pos rfl]
          have top : ∀ c, c < q → Hp τ i (τ 39 i c) ≤ Hp τ i s + 1 := fun c hc => by
            have := b3 c hc a (Nat.le_refl _) haq
            rw [ts] at this; exact this
          have mon : ∀ w, Hp τ i w ≠ 1000000 → Hp υ i w ≠ 1000000 := fun w hw => by
            by_cases e : w.toNat = bf.toNat
            · exfalso
              apply hw
              unfold Hp at heq' ⊢
              rw [e]; exact heq'
            · rw [u38' w e]; exact hw
          have tne : t ≠ bf := fun z => by rw [z, heq'] at b8; omega
          refine go υ (q + 1) uF (by omega) u6 (by rw [(hq' a haq).1, ts]) ⟨fun b hb => ?_, fun b c hbc hc => ?_, fun c hc b hab' hb => ?_, fun u hu hne => ?_, fun b hb u hu htg => ?_, fun u hu hne => ?_, ?_, ?_, by omega⟩ mon (fun _ => by rw [hbf]; omega)
          · by_cases e : b = q
            · rw [e, hqq, hbf]; exact ⟨hbst, by omega, by omega⟩
            · rw [(hq' b (by omega)).1, (hq' b (by omega)).2]; exact b1 b (by omega)
          · have hb' := hq' b (by omega)
            by_cases e : c = q
            · rw [e, hqq, hbf, hb'.1, hb'.2]; exact top b (by omega)
            · have hc' := hq' c (by omega)
              rw [hb'.1, hb'.2, hc'.1, hc'.2]; exact b2 b c hbc (by omega)
          · by_cases e : b = q
            · rw [e, hqq, hbf]
              by_cases e2 : c = q
              · rw [e2, hqq, hbf]; omega
              · rw [(hq' c (by omega)).1, (hq' c (by omega)).2]
                have := top c (by omega); omega
            · have hb' := hq' b (by omega)
              rw [hb'.1, hb'.2]
              by_cases e2 : c = q
              · rw [e2, hqq, hbf]
                rcases Nat.lt_or_eq_of_le hab' with w | w
                · have := b2 a b w (by omega)
                  rw [ts] at this; omega
                · rw [← w, ts]; omega
              · rw [(hq' c (by omega)).1, (hq' c (by omega)).2]
                exact b3 c (by omega) b hab' (by omega)
          · by_cases e : u = bf
            · exact ⟨q, by omega, by rw [hqq, e]⟩
            · rw [u38 u hu, if_neg e] at hne
              obtain ⟨b, c1, c2⟩ := b4 u hu hne
              exact ⟨b, by omega, by rw [(hq' b c1).1, c2]⟩
          · have hb' := hq' b (by omega)
            rw [hb'.1] at htg ⊢
            rw [hb'.2]
            have := b5 b hb u hu htg
            rw [u38 u hu, if_neg (fun z => by rw [z] at this; exact this.1 heq')]
            exact this
          · by_cases e : u = bf
            · right
              rw [e, hbf]
              refine ⟨s, hs, ⟨cv, hmv, htt⟩, mon s (by omega), ?_⟩
              rw [u38 s hs, if_neg (fun z => by rw [z] at hsa; omega)]
            · rw [u38 u hu, if_neg e] at hne ⊢
              rcases b6 u hu hne with z | ⟨w, w1, w2, w3, w4⟩
              · exact Or.inl z
              · refine Or.inr ⟨w, w1, w2, mon w w3, ?_⟩
                rw [u38 w w1, if_neg (fun z => w3 (by rw [z]; exact heq'))]; exact w4
          · rw [b7]
            symm
            refine cnt_add (P := fun k => isSt V (k : Int) ∧ Hp τ i (k : Int) ≠ 1000000) (Q := fun k => isSt V (k : Int) ∧ Hp υ i (k : Int) ≠ 1000000) (m := bf.toNat) (by omega) (fun k _ hk => ?_) ?_ ?_
            · rw [u38' (k : Int) (by omega)]
            · rw [Int.toNat_of_nonneg hbb.1, hbf]; exact ⟨hbst, by omega⟩
            · rw [Int.toNat_of_nonneg hbb.1]; exact fun z => z.2 heq'
          · rw [u38 t ht, if_neg tne]; exact b8
  exact key (σ 10 j 13).toNat 0 (by omega) σ q FR.rf ha hq hsv hB (fun k' hk' => by omega)
end Hops
