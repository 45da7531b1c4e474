/-! ===== the model's backed, findParts, leaves ===== -/
noncomputable def bk (V : Vy) (s k : Int) : Int := @ite Int (stV V s k ≠ -1 ∧ tbit (ans V (stV V s k) (k / ha V).toNat) (hab V s (k / ha V).toNat).toNat = true) (Classical.propDecidable _) (stV V s k) (-1)
def pt (σ : St) (s : Int) : Int := σ 79 0 s.toNat
def ppP (c i _j : Nat) : Prop := i = 0 ∧ (c = 79 ∨ c = 81)
section Parts
variable {σ : St} {Q : Res → St → Prop} {V : Vy} {s t : Int}
theorem bk_e (hV : VOK V) (hs : isSt V s) {k : Int} (h0 : 0 ≤ k) (h1 : k < pe V * ha V) (h : bk V s k ≠ -1) : isSt V (bk V s k) ∧ E V (bk V s k) s := by
  unfold bk at h ⊢
  by_cases c : stV V s k ≠ -1 ∧ tbit (ans V (stV V s k) (k / ha V).toNat) (hab V s (k / ha V).toNat).toNat = true
  · rw [if_pos c]
    obtain ⟨c1, c2⟩ := c
    have hb := kk_bd hV h0 h1
    obtain ⟨hne, x, hm, -⟩ := stV_mv hV h0 h1 c1
    refine ⟨hm.st hV hs, ?_⟩
    unfold stV at c1 c2 ⊢
    by_cases d : ke V (k / ha V).toNat ≠ -1 ∨ wi V s (k / ha V).toNat (k % ha V) = s
    · rw [if_pos d] at c1; exact absurd rfl c1
    · rw [if_neg d] at c2 ⊢
      have hbs := hab_bd hV s (k / ha V).toNat
      exact ⟨(k / ha V).toNat, by omega, Classical.byContradiction (fun z => d (Or.inl z)), hab V s (k / ha V).toNat, hbs.1, hbs.2, by rw [wi_wi hV hs.1.1 hb.2.1 hb.2.2, wi_self], c2⟩
  · rw [if_neg c] at h; exact absurd rfl h
theorem e_bk (hV : VOK V) (hs : isSt V s) {q : Int} (hq : isSt V q) (h : E V q s) (hne : q ≠ s) : ∃ k : Nat, (k : Int) < pe V * ha V ∧ bk V s k = q := by
  obtain ⟨p, hp, hk, x, h0, h1, h2, h3⟩ := h
  have hbq := hab_bd hV q p
  obtain ⟨k, k1, k2, k3⟩ := kk_of hV hp hbq.1 hbq.2
  have ew : wi V s p (hab V q p) = q := by rw [h2, wi_wi hV hq.1.1 h0 h1, wi_self]
  have eh : hab V s p = x := by rw [h2, hab_wi_same hV hq.1.1 h0 h1]
  have es : stV V s k = q := by
    unfold stV
    rw [k2, k3, ew, if_neg (fun z => z.elim (fun z => z hk) hne)]
  refine ⟨k, k1, ?_⟩
  unfold bk
  rw [es, k2, eh, if_pos ⟨by have := hq.1.1; omega, h3⟩]
theorem d_backed {k : Int} (hV : VOK V) (hT : MT σ V) (hR : MRP σ V) (hs : isSt V s) (h0 : 0 ≤ k) (h1 : k < pe V * ha V) (h : Q (.inl (some (vI (bk V s k)))) σ) : WP mX13_backed 0 [vR 14 0, vI s, vI k, vU] [] σ Q := by
  have hb := kk_bd hV h0 h1
  have hpe := hV.pe
  have hha := hV.ha
  have hsb := st_bd hV hs
  have hsd := stp_sides hV hT hs h0 h1
  have hpw := pw_pos hV (k / ha V).toNat
  refine b_X13_backed_0 ⟨hsd, ?_⟩
  rw [stp_eq hV hT h0 h1, hT.ha, hT.pw _ (by omega)]
  refine ⟨fun hc => ?_, fun hc => ?_⟩
  · unfold bk at h; rw [if_neg (fun z => z.1 hc)] at h; exact h
  · obtain ⟨hne, x, hm, -⟩ := stV_mv hV h0 h1 hc
    have hst := hm.st hV hs
    have htb := st_bd hV hst
    have hbs := hab_bd hV s (k / ha V).toNat
    have e := hR.2 _ hst (k / ha V).toNat (by omega)
    rw [Int.toNat_of_nonneg hb.1.1] at e
    have ab := ans_bd hV (stV V s k) (p := (k / ha V).toNat) (by omega)
    rw [e]
    have hi := band_eq1 (m := ans V (stV V s k) (k / ha V).toNat) (q := hab V s (k / ha V).toNat) ab.1 (by omega) hbs.1 (by omega)
    refine ⟨⟨h0, by omega⟩, ⟨h0, by omega⟩, ⟨by omega, by omega, by omega, hpw, Int.ediv_nonneg hsb.1 (Int.le_of_lt hpw), by omega⟩, ⟨by omega, by omega, by omega, by omega⟩, fun hf => ?_, fun hf => ?_⟩
    · unfold bk at h; rw [if_pos ⟨hc, hi.mp hf⟩] at h; exact h
    · unfold bk at h; rw [if_neg (fun z => hf (hi.mpr z.2))] at h; exact h
def PI (V : Vy) (τ : St) (O : Nat → Int) (n : Int) (m : Nat) : Prop := (∀ s, isSt V s → pt τ s = -1 ∨ (isSt V (pt τ s) ∧ Rch V s (pt τ s) ∧ Rch V (pt τ s) s)) ∧ (∀ s t, isSt V s → pt τ t ≠ -1 → E V s t → pt τ s ≠ -1) ∧ (∀ a : Nat, m ≤ a → (a : Int) < n → pt τ (O a) ≠ -1) ∧ (∀ s t, isSt V s → isSt V t → pt τ s ≠ -1 → pt τ t ≠ -1 → Rch V s t → Rch V t s → pt τ s = pt τ t)
/-- newly taken in -/
def nB (V : Vy) (σ0 τ : St) (b s : Int) : Prop := isSt V s ∧ pt σ0 s = -1 ∧ pt τ s = b
def CR (V : Vy) (σ0 τ : St) (O : Nat → Int) (b : Int) (i : Nat) (s : Int) : Prop := ∀ a θ : Nat, O a = s → a ≤ i → a < θ → θ ≤ i → ∃ x y : Nat, x < θ ∧ θ ≤ y ∧ y ≤ i ∧ nB V σ0 τ b (O x) ∧ nB V σ0 τ b (O y) ∧ E V (O x) (O y)
/-- the flood: cur is being looked at, up to k -/
def FLD (V : Vy) (σ0 τ : St) (O : Nat → Int) (b : Int) (i : Nat) (en : Nat) (cur : Int) (k : Nat) : Prop := (∀ s, isSt V s → (pt σ0 s ≠ -1 → pt τ s = pt σ0 s) ∧ (pt σ0 s = -1 → pt τ s = -1 ∨ pt τ s = b)) ∧ nB V σ0 τ b b ∧ (∀ s, nB V σ0 τ b s → Rch V s b ∧ Rch V b s ∧ CR V σ0 τ O b i s) ∧ (∀ d : Nat, d < en → nB V σ0 τ b (τ 81 0 d)) ∧ (∀ s, nB V σ0 τ b s → s = cur ∨ (∃ d : Nat, d < en ∧ τ 81 0 d = s) ∨ ∀ q, isSt V q → E V q s → pt τ q ≠ -1) ∧ en ≤ cnt (fun k => isSt V (k : Int) ∧ τ 79 0 k ≠ -1) 1024 ∧ (∀ k' : Nat, k' < k → bk V cur k' ≠ -1 → pt τ (bk V cur k') ≠ -1)
theorem pcnt_lt (hV : VOK V) {τ : St} (hs : isSt V s) (h : pt τ s = -1) : cnt (fun k => isSt V (k : Int) ∧ τ 79 0 k ≠ -1) 1024 < 1024 := by
  have hb := st_bd hV hs
  have := cnt_lt (P := fun k => isSt V (k : Int) ∧ τ 79 0 k ≠ -1) (Q := fun _ => True) (m := s.toNat) (n := 1024) (by omega) (fun _ _ _ => trivial) trivial (fun z => z.2 h)
  have := cnt_bd (fun _ => True) 1024
  omega
theorem d_findParts (hV : VOK V) (hT : MT σ V) (hR : MRP σ V) (hO : ORD V σ) (h : ∀ τ, FR ppP σ τ → (∀ s t, isSt V s → isSt V t → (pt τ s = pt τ t ↔ Rch V s t ∧ Rch V t s)) → (∀ s, isSt V s → isSt V (pt τ s) ∧ Rch V s (pt τ s) ∧ Rch V (pt τ s) s) → Q (.inl none) τ) : WP mX13_findParts 0 [vR 14 0, vU, vU, vU, vU, vU, vU] [] σ Q := by
  have hpe := hV.pe
  have hha := hV.ha
  have hc := hV.cod
  have hc0 := cod_pos hV
  have hph := ph_bd hV
  have hTf : ∀ τ, FR ppP σ τ → MT τ V := fun τ hF => hT.fr hF (fun c j hc z => by unfold ppP at z; omega)
  have hRf : ∀ τ, FR ppP σ τ → MRP τ V := fun τ hF => hR.fr hF (fun c j hc z => by unfold ppP at z; omega)
  have e80 : ∀ τ, FR ppP σ τ → ∀ a, τ 80 0 a = σ 80 0 a := fun τ hF a => hF _ _ _ (fun z => by unfold ppP at z; omega)
  have e50 : ∀ τ, FR ppP σ τ → τ 14 0 50 = σ 14 0 50 := fun τ hF => hF _ _ _ (fun z => by unfold ppP at z; omega)
  obtain ⟨o1, o2, o3, o4, o5, o6⟩ := hO
  have oinj : ∀ a b : Nat, (a : Int) < σ 14 0 50 → (b : Int) < σ 14 0 50 → σ 80 0 a = σ 80 0 b → a = b := fun a b ha hb he => by
    rcases Nat.lt_trichotomy a b with z | z | z
    · exact absurd he (o5 a b z hb)
    · exact z
    · exact absurd he.symm (o5 b a z ha)
  refine b_X13_findParts_0 ?_
  have outer : ∀ (m : Nat) (τ : St), (m : Int) ≤ σ 14 0 50 → FR ppP σ τ → PI V τ (σ 80 0) (σ 14 0 50) m → WP mX13_findParts 30 [vR 14 0, vI ((m : Int) - 1), vU, vU, vU, vU, vU] [] τ Q := by
    intro m
    induction m with
    | zero =>
      intro τ hm hF hI
      obtain ⟨p0, p1, p3, p4⟩ := hI
      have all : ∀ s, isSt V s → pt τ s ≠ -1 := fun s hs => by
        obtain ⟨a, a1, a2⟩ := o4 s hs
        rw [← a2]
        exact p3 a (by omega) a1
      refine b_X13_findParts_30 ⟨fun _ => h τ hF (fun s t hs ht => ⟨fun e => ?_, fun e => p4 s t hs ht (all s hs) (all t ht) e.1 e.2⟩) (fun s hs => (p0 s hs).resolve_left (all s hs)), fun z => by omega⟩
      obtain ⟨a1, a2, a3⟩ := (p0 s hs).resolve_left (all s hs)
      obtain ⟨b1, b2, b3⟩ := (p0 t ht).resolve_left (all t ht)
      rw [← e] at b2 b3
      exact ⟨a2.tr b3, b2.tr a3⟩
    | succ i ih =>
      intro σ0 hm hF0 hI
      have hI0 := hI
      obtain ⟨p0, p1, p3, p4⟩ := hI
      have hbst := o3 i (by omega)
      have hbb := st_bd hV hbst
      have pcl : ∀ s t, isSt V s → pt σ0 t ≠ -1 → Rch V s t → pt σ0 s ≠ -1 := fun s t hs ht hr => (hr.back (fun x => isSt V x → pt σ0 x ≠ -1) (fun _ => ht) (fun a c he hc ha => p1 a c ha (hc (he.st hV ha)) he)) hs
      have hidx : ∀ s, isSt V s → pt σ0 s = -1 → ∃ a : Nat, a ≤ i ∧ σ 80 0 a = s := fun s hs hp => by
        obtain ⟨a, a1, a2⟩ := o4 s hs
        refine ⟨a, ?_, a2⟩
        apply Classical.byContradiction
        intro hn
        exact p3 a (by omega) a1 (by rw [a2]; exact hp)
      refine b_X13_findParts_30 ?_
      rw [show (((i + 1 : Nat) : Int) - 1) = (i : Int) by omega, Int.toNat_natCast, e80 σ0 hF0]
      refine ⟨fun z => by omega, fun _ => ⟨⟨by omega, by omega⟩, ⟨by omega, by omega⟩, fun hun => ⟨⟨by omega, by omega⟩, ?_⟩, fun has => ⟨by unfold in32; omega, ?_⟩⟩⟩
      · -- the flood
        have hun' : pt σ0 (σ 80 0 i) = -1 := hun
        generalize hb : σ 80 0 i = b at *
        have flood : ∀ (N : Nat) (τ : St) (en : Nat), 2 * (1024 - cnt (fun k => isSt V (k : Int) ∧ τ 79 0 k ≠ -1) 1024) + en < N → FR ppP σ τ → FLD V σ0 τ (σ 80 0) b i en (-1) 0 → WP mX13_findParts 70 [vR 14 0, vI (i : Int), vI b, vI (en : Int), vU, vU, vU] [] τ Q := by
          intro N
          induction N with
          | zero => intro τ en hN; omega
          | succ N ihN =>
            intro τ en hN hF hL
            have hL0 := hL
            obtain ⟨f0, f1, f2, f3, f4, f5, -⟩ := hL
            have hcb := cnt_bd (fun k => isSt V (k : Int) ∧ τ 79 0 k ≠ -1) 1024
            by_cases he : en = 0
            · subst he
              refine b_X13_findParts_70 ⟨fun _ => ⟨by unfold in32; omega, ?_⟩, fun z => by omega⟩
              have asg : ∀ s, isSt V s → pt τ s ≠ -1 → pt σ0 s = -1 → nB V σ0 τ b s := fun s hs h1 h2 => ⟨hs, h2, ((f0 s hs).2 h2).resolve_left h1⟩
              have hbne : b ≠ -1 := by omega
              refine ih τ (by omega) hF ⟨fun s hs => ?_, fun s t hs ht he => ?_, fun a ha1 ha2 => ?_, fun s t hs ht hs1 ht1 h1 h2 => ?_⟩
              · by_cases e : pt σ0 s = -1
                · rcases (f0 s hs).2 e with z | z
                  · exact Or.inl z
                  · have := f2 s ⟨hs, e, z⟩
                    rw [z]
                    exact Or.inr ⟨hbst, this.1, this.2.1⟩
                · rw [(f0 s hs).1 e]; exact p0 s hs
              · have hts := he.st hV hs
                by_cases e : pt σ0 t = -1
                · rcases f4 t (asg t hts ht e) with z | ⟨d, d1, -⟩ | z
                  · have := st_bd hV hts; omega
                  · omega
                  · exact z s hs he
                · have := p1 s t hs e he
                  rw [(f0 s hs).1 this]; exact this
              · by_cases e : a = i
                · rw [e, hb, f1.2.2]; exact hbne
                · have hast := o3 a ha2
                  have := p3 a (by omega) ha2
                  rw [(f0 _ hast).1 this]; exact this
              · by_cases es : pt σ0 s = -1
                · by_cases et : pt σ0 t = -1
                  · rw [(asg s hs hs1 es).2.2, (asg t ht ht1 et).2.2]
                  · exact absurd es (pcl s t hs et h1)
                · by_cases et : pt σ0 t = -1
                  · exact absurd et (pcl t s ht es h2)
                  · rw [(f0 s hs).1 es, (f0 t ht).1 et]; exact p4 s t hs ht es et h1 h2
            · obtain ⟨e0, rfl⟩ : ∃ e, en = e + 1 := ⟨en - 1, by omega⟩
              have hcur := f3 e0 (by omega)
              have hcs := hcur.1
              have hcsb := st_bd hV hcs
              refine b_X13_findParts_70 ⟨fun z => by omega, fun _ => ⟨by unfold in32; omega, ⟨by omega, by omega⟩, ?_⟩⟩
              rw [show ((e0 + 1 : Nat) : Int) + (-1) = (e0 : Int) by omega, Int.toNat_natCast]
              generalize hcu : τ 81 0 e0 = cur at *
              have inner : ∀ (m2 k : Nat) (υ : St) (en : Nat), ((m2 + k : Nat) : Int) = pe V * ha V → 2 * (1024 - cnt (fun k => isSt V (k : Int) ∧ υ 79 0 k ≠ -1) 1024) + en < N → FR ppP σ υ → nB V σ0 υ b cur → FLD V σ0 υ (σ 80 0) b i en cur k → WP mX13_findParts 88 [vR 14 0, vI (i : Int), vI b, vI (en : Int), vI cur, vI (k : Int), vU] [] υ Q := by
                intro m2
                induction m2 with
                | zero =>
                  intro k υ en hk hN hF hcu2 hL
                  obtain ⟨f0, f1, f2, f3, f4, f5, f6⟩ := hL
                  refine b_X13_findParts_88 ?_
                  rw [(hTf υ hF).pe, (hTf υ hF).ha]
                  refine ⟨by unfold in32; omega, fun _ => ihN υ en hN hF ⟨f0, f1, f2, f3, fun s hs => ?_, f5, fun k' hk' => by omega⟩, fun z => by omega⟩
                  rcases f4 s hs with z | z
                  · right; right
                    intro q hq hE
                    rw [z] at hE
                    by_cases e : q = cur
                    · rw [e, hcu2.2.2]; omega
                    · obtain ⟨k', k1, k2⟩ := e_bk hV hcs hq hE e
                      have := f6 k' (by omega) (by rw [k2]; have := hq.1.1; omega)
                      rw [k2] at this
                      exact this
                  · exact Or.inr z
                | succ m2 ihm =>
                  intro k υ en hk hN hF hcu2 hL
                  have hL0 := hL
                  obtain ⟨f0, f1, f2, f3, f4, f5, f6⟩ := hL
                  have hcb := cnt_bd (fun k => isSt V (k : Int) ∧ υ 79 0 k ≠ -1) 1024
                  refine b_X13_findParts_88 ?_
                  rw [(hTf υ hF).pe, (hTf υ hF).ha]
                  refine ⟨by unfold in32; omega, fun z => by omega, fun _ => d_backed hV (hTf υ hF) (hRf υ hF) hcs (by omega) (by omega) ?_⟩
                  show WP mX13_findParts 110 [vR 14 0, vI (i : Int), vI b, vI (en : Int), vI cur, vI (k : Int), vU] [vI (bk V cur k)] υ Q
                  have skip : (bk V cur k ≠ -1 → pt υ (bk V cur k) ≠ -1) → WP mX13_findParts 88 [vR 14 0, vI (i : Int), vI b, vI (en : Int), vI cur, vI ((k : Int) + 1), vU] [] υ Q := fun hq => ihm (k + 1) υ en (by omega) hN hF hcu2 ⟨f0, f1, f2, f3, f4, f5, fun k' hk' => by
                    by_cases e : k' = k
                    · rw [e]; exact hq
                    · exact f6 k' (by omega)⟩
                  refine b_X13_findParts_110 ⟨fun hc => ⟨by unfold in32; omega, skip (fun z => absurd hc z)⟩, fun hc => ?_⟩
                  obtain ⟨hqs, hqe⟩ := bk_e hV hcs (k := (k : Int)) (by omega) (by omega) hc
                  have hqb := st_bd hV hqs
                  refine ⟨⟨by omega, by omega⟩, fun hunq => ?_, fun has => ⟨by unfold in32; omega, skip (fun _ => has)⟩⟩
                  have hunq' : pt υ (bk V cur k) = -1 := hunq
                  have hlt := pcnt_lt hV hqs hunq'
                  generalize hq : bk V cur k = q at *
                  refine ⟨⟨by omega, by omega⟩, ⟨by omega, by omega⟩, by unfold in32; omega, by unfold in32; omega, ?_⟩
                  rw [Int.toNat_natCast]
                  have c79 : ∀ x : Nat, (up (up υ 79 0 q.toNat b) 81 0 en q) 79 0 x = if x = q.toNat then b else υ 79 0 x := fun x => by
                    rw [up_c (by omega)]
                    by_cases e : x = q.toNat
                    · rw [if_pos e, e, up_s]
                    · rw [if_neg e, up_j e]
                  have c81 : ∀ x, (up (up υ 79 0 q.toNat b) 81 0 en q) 81 0 x = if x = en then q else υ 81 0 x := fun x => by
                    by_cases e : x = en
                    · rw [if_pos e, e, up_s]
                    · rw [if_neg e, up_j e, up_c (by omega)]
                  have hFn : FR ppP σ (up (up υ 79 0 q.toNat b) 81 0 en q) := (hF.u ⟨rfl, by omega⟩).u ⟨rfl, by omega⟩
                  generalize up (up υ 79 0 q.toNat b) 81 0 en q = ω at *
                  have cpt : ∀ x, 0 ≤ x → pt ω x = if x = q then b else pt υ x := fun x hx => by
                    unfold pt
                    rw [c79]
                    by_cases e : x = q
                    · rw [if_pos e, if_pos (by rw [e])]
                    · rw [if_neg e, if_neg (by omega)]
                  have hqA : pt σ0 q = -1 := by
                    apply Classical.byContradiction
                    intro z
                    rw [(f0 q hqs).1 z] at hunq'
                    exact z hunq'
                  have hbne : b ≠ -1 := by omega
                  have mono : ∀ x, nB V σ0 υ b x → nB V σ0 ω b x := fun x hx => ⟨hx.1, hx.2.1, by
                    rw [cpt x hx.1.1.1]
                    split
                    · rfl
                    · exact hx.2.2⟩
                  have nq : nB V σ0 ω b q := ⟨hqs, hqA, by rw [cpt q hqb.1, if_pos rfl]⟩
                  have inv : ∀ x, nB V σ0 ω b x → x = q ∨ nB V σ0 υ b x := fun x hx => by
                    by_cases e : x = q
                    · exact Or.inl e
                    · have := hx.2.2
                      rw [cpt x hx.1.1.1, if_neg e] at this
                      exact Or.inr ⟨hx.1, hx.2.1, this⟩
                  have crm : ∀ x, CR V σ0 υ (σ 80 0) b i x → CR V σ0 ω (σ 80 0) b i x := fun x hx a θ h1 h2 h3 h4 => by
                    obtain ⟨y, z, z1, z2, z3, z4, z5, z6⟩ := hx a θ h1 h2 h3 h4
                    exact ⟨y, z, z1, z2, z3, mono _ z4, mono _ z5, z6⟩
                  obtain ⟨g1, g2, g3⟩ := f2 cur hcu2
                  obtain ⟨as, as1, as2⟩ := hidx cur hcs hcu2.2.1
                  obtain ⟨aq, aq1, aq2⟩ := hidx q hqs hqA
                  have hqc : q ≠ cur := by
                    intro z
                    rw [z] at hunq'
                    exact hbne (hcu2.2.2.symm.trans hunq')
                  have hbq : Rch V b q := by
                    have h1 := o6 aq (by omega) cur (by rw [aq2]; exact hqe)
                    have h2 : as < aq ∨ Rch V cur q := by
                      rcases h1 with ⟨x, x1, x2⟩ | h1
                      · have := oinj x as (by omega) (by omega) (by rw [x2, as2])
                        exact Or.inl (by omega)
                      · rcases h1 aq (Nat.le_refl _) (by omega) with ⟨x, x1, x2⟩ | z
                        · have h3 := oinj x as (by omega) (by omega) (by rw [x2, as2])
                          have h4 : as ≠ aq := fun z => hqc (by rw [← aq2, ← z, as2])
                          exact Or.inl (by omega)
                        · rw [aq2] at z; exact Or.inr z
                    rcases h2 with h2 | h2
                    · obtain ⟨x, y, x1, x2, x3, x4, x5, x6⟩ := g3 as aq as2 as1 h2 aq1
                      have hyq : y ≠ aq := by
                        intro z
                        rw [z, aq2] at x5
                        exact hbne (x5.2.2.symm.trans hunq')
                      have h5 := o6 x (by omega) (σ 80 0 y) x6
                      have h6 : Rch V (σ 80 0 y) q := by
                        rcases h5 with ⟨w, w1, w2⟩ | h5
                        · have := oinj w y (by omega) (by omega) w2
                          omega
                        · rcases h5 aq (by omega) (by omega) with ⟨w, w1, w2⟩ | z
                          · have := oinj w y (by omega) (by omega) w2
                            omega
                          · rw [aq2] at z; exact z
                      exact (f2 _ x5).2.1.tr h6
                    · exact g2.tr h2
                  have hcq : CR V σ0 ω (σ 80 0) b i q := by
                    intro a θ h1 h2 h3 h4
                    have ea : a = aq := oinj a aq (by omega) (by omega) (by rw [h1, aq2])
                    by_cases e : θ ≤ as
                    · exact ⟨aq, as, by omega, e, as1, by rw [aq2]; exact nq, by rw [as2]; exact mono _ hcu2, by rw [aq2, as2]; exact hqe⟩
                    · exact crm cur g3 as θ as2 as1 (by omega) h4
                  have hcn : cnt (fun k => isSt V (k : Int) ∧ ω 79 0 k ≠ -1) 1024 = cnt (fun k => isSt V (k : Int) ∧ υ 79 0 k ≠ -1) 1024 + 1 := cnt_add (P := fun k => isSt V (k : Int) ∧ υ 79 0 k ≠ -1) (Q := fun k => isSt V (k : Int) ∧ ω 79 0 k ≠ -1) (m := q.toNat) (n := 1024) (by omega) (fun k _ hk => by rw [c79, if_neg hk]) (by rw [c79, if_pos rfl, show ((q.toNat : Nat) : Int) = q by omega]; exact ⟨hqs, hbne⟩) (fun z => z.2 hunq)
                  refine ihm (k + 1) ω (en + 1) (by omega) (by omega) hFn (mono _ hcu2) ⟨fun s hs => ?_, mono _ f1, fun s hs => ?_, fun d hd => ?_, fun s hs => ?_, by omega, fun k' hk' hne => ?_⟩
                  · rw [cpt s hs.1.1]
                    by_cases e : s = q
                    · rw [if_pos e]; exact ⟨fun z => absurd (by rw [e]; exact hqA) z, fun _ => Or.inr rfl⟩
                    · rw [if_neg e]; exact f0 s hs
                  · rcases inv s hs with z | z
                    · rw [z]; exact ⟨(Rch.one hqe).tr g1, hbq, hcq⟩
                    · have := f2 s z; exact ⟨this.1, this.2.1, crm s this.2.2⟩
                  · rw [c81]
                    by_cases e : d = en
                    · rw [if_pos e]; exact nq
                    · rw [if_neg e]; exact mono _ (f3 d (by omega))
                  · have asn : ∀ x, isSt V x → pt υ x ≠ -1 → pt ω x ≠ -1 := fun x hx hp => by
                      rw [cpt x hx.1.1]
                      split
                      · exact hbne
                      · exact hp
                    rcases inv s hs with z | z
                    · exact Or.inr (Or.inl ⟨en, by omega, by rw [c81, if_pos rfl, z]⟩)
                    · rcases f4 s z with w | ⟨d, d1, d2⟩ | w
                      · exact Or.inl w
                      · exact Or.inr (Or.inl ⟨d, by omega, by rw [c81, if_neg (by omega)]; exact d2⟩)
                      · exact Or.inr (Or.inr (fun x hx hE => asn x hx (w x hx hE)))
                  · have hk'b : isSt V (bk V cur k') := (bk_e hV hcs (k := (k' : Int)) (by omega) (by omega) hne).1
                    rw [cpt _ hk'b.1.1]
                    split
                    · exact hbne
                    · by_cases e : k' = k
                      · rename_i hnq; rw [e] at hnq; exact absurd hq hnq
                      · exact f6 k' (by omega) hne
              have := inner (pe V * ha V).toNat 0 τ e0 (by omega) (by omega) hF hcur ⟨f0, f1, f2, fun d hd => f3 d (by omega), fun s hs => ?_, by omega, fun k' hk' => by omega⟩
              · exact this
              · rcases f4 s hs with z | ⟨d, d1, d2⟩ | z
                · have := st_bd hV hs.1; omega
                · by_cases e : d = e0
                  · left; rw [← d2, e, hcu]
                  · exact Or.inr (Or.inl ⟨d, by omega, d2⟩)
                · exact Or.inr (Or.inr z)
        have c79 : ∀ x : Nat, (up (up σ0 81 0 0 b) 79 0 b.toNat b) 79 0 x = if x = b.toNat then b else σ0 79 0 x := fun x => by
          by_cases e : x = b.toNat
          · rw [if_pos e, e, up_s]
          · rw [if_neg e, up_j e, up_c (by omega)]
        have c81 : (up (up σ0 81 0 0 b) 79 0 b.toNat b) 81 0 0 = b := by rw [up_c (by omega), up_s]
        have hFn : FR ppP σ (up (up σ0 81 0 0 b) 79 0 b.toNat b) := (hF0.u ⟨rfl, by omega⟩).u ⟨rfl, by omega⟩
        generalize up (up σ0 81 0 0 b) 79 0 b.toNat b = υ at *
        have cpt : ∀ x, 0 ≤ x → pt υ x = if x = b then b else pt σ0 x := fun x hx => by
          unfold pt
          rw [c79]
          by_cases e : x = b
          · rw [if_pos e, if_pos (by rw [e])]
          · rw [if_neg e, if_neg (by omega)]
        have nb : nB V σ0 υ b b := ⟨hbst, hun', by rw [cpt b hbb.1, if_pos rfl]⟩
        have inv : ∀ x, nB V σ0 υ b x → x = b := fun x hx => by
          apply Classical.byContradiction
          intro e
          have := hx.2.2
          rw [cpt x hx.1.1.1, if_neg e, hx.2.1] at this
          omega
        have h1 : 1 ≤ cnt (fun k => isSt V (k : Int) ∧ υ 79 0 k ≠ -1) 1024 := by
          have := cnt_lt (P := fun _ => False) (Q := fun k => isSt V (k : Int) ∧ υ 79 0 k ≠ -1) (m := b.toNat) (n := 1024) (by omega) (fun _ _ z => z.elim) (by rw [c79, if_pos rfl, show ((b.toNat : Nat) : Int) = b by omega]; exact ⟨hbst, by omega⟩) (fun z => z)
          omega
        refine flood _ υ 1 (Nat.lt_succ_self _) hFn ⟨fun s hs => ?_, nb, fun s hs => ?_, fun d hd => ?_, fun s hs => ?_, h1, fun k' hk' => by omega⟩
        · rw [cpt s hs.1.1]
          by_cases e : s = b
          · rw [if_pos e]; exact ⟨fun z => absurd (by rw [e]; exact hun') z, fun _ => Or.inr rfl⟩
          · rw [if_neg e]; exact ⟨fun _ => rfl, fun z => Or.inl z⟩
        · rw [inv s hs]
          refine ⟨Rch.rf, Rch.rf, fun a θ h1 h2 h3 h4 => ?_⟩
          have := oinj a i (by omega) (by omega) (by rw [h1, hb])
          omega
        · rw [show d = 0 by omega, c81]; exact nb
        · exact Or.inr (Or.inl ⟨0, by omega, by rw [c81, inv s hs]⟩)
      · have := ih σ0 (by omega) hF0 ⟨p0, p1, fun a ha1 ha2 => by
          by_cases e : a = i
          · rw [e]; exact has
          · exact p3 a (by omega) ha2, p4⟩
        rw [show (i : Int) + (-1) = (i : Int) - 1 by omega]
        exact this
  have key1 : ∀ n x : Nat, ((n + x : Nat) : Int) = cod V → ∀ τ, FR ppP σ τ → (∀ y : Nat, y < x → τ 79 0 y = -1) → WP mX13_findParts 2 [vR 14 0, vI (x : Int), vU, vU, vU, vU, vU] [] τ Q := by
    intro n
    induction n with
    | zero =>
      intro x hx τ hF hy
      refine b_X13_findParts_2 ?_
      rw [(hTf τ hF).all hV, (hTf τ hF).pe, e50 τ hF]
      refine ⟨⟨by omega, by omega⟩, fun _ => ⟨by unfold in32; omega, ?_⟩, fun z => by omega⟩
      have hno : ∀ s, isSt V s → pt τ s = -1 := fun s hs => hy s.toNat (by have := hs.1; unfold inC at this; omega)
      have := outer (σ 14 0 50).toNat τ (by omega) hF ⟨fun s hs => Or.inl (hno s hs), fun s t hs ht he => absurd (hno t (he.st hV hs)) ht, fun a h1 h2 => by omega, fun s t hs _ h1 => absurd (hno s hs) h1⟩
      rw [show (((σ 14 0 50).toNat : Nat) : Int) = σ 14 0 50 by omega] at this
      exact this
    | succ n ih =>
      intro x hx τ hF hy
      refine b_X13_findParts_2 ?_
      rw [(hTf τ hF).all hV, (hTf τ hF).pe, Int.toNat_natCast]
      refine ⟨⟨by omega, by omega⟩, fun z => by omega, fun _ => ⟨⟨by omega, by omega⟩, by unfold in32; omega, ih (x + 1) (by omega) _ (hF.u ⟨rfl, by omega⟩) (fun y hy' => ?_)⟩⟩
      by_cases e : y = x
      · rw [e, up_s]
      · rw [up_j e]; exact hy y (by omega)
  exact key1 (cod V).toNat 0 (by omega) σ FR.rf (fun y hy => by omega)
theorem d_leaves (hV : VOK V) (hT : MT σ V) (hR : MRP σ V) (hs : isSt V s) (h : Q (.inl (some (vI (b2 (∃ t, E V s t ∧ pt σ t ≠ pt σ s))))) σ) : WP mX13_leaves 0 [vR 14 0, vI s, vU, vU] [] σ Q := by
  have hpe := hV.pe
  have hha := hV.ha
  have hph := ph_bd hV
  have hsb := st_bd hV hs
  refine b_X13_leaves_0 ?_
  have key : ∀ m k : Nat, ((m + k : Nat) : Int) = pe V * ha V → (∀ k' : Nat, k' < k → stV V s k' ≠ -1 → efree V s k' → pt σ (stV V s k') = pt σ s) → WP mX13_leaves 2 [vR 14 0, vI s, vI (k : Int), vU] [] σ Q := by
    intro m
    induction m with
    | zero =>
      intro k hk hq
      refine b_X13_leaves_2 ?_
      rw [hT.pe, hT.ha]
      refine ⟨by unfold in32; omega, fun _ => ?_, fun z => by omega⟩
      have hn : ¬ ∃ t, E V s t ∧ pt σ t ≠ pt σ s := by
        rintro ⟨t, t1, t2⟩
        have hne : t ≠ s := fun z => t2 (by rw [z])
        obtain ⟨k', k1, k2, k3⟩ := e_k hV hs t1 hne
        have := hq k' (by omega) (by rw [k2]; have := (st_bd hV (t1.st hV hs)).1; omega) k3
        rw [k2] at this
        exact t2 this
      rw [b2_f hn] at h
      exact h
    | succ m ih =>
      intro k hk hq
      have k0 : (0 : Int) ≤ k := by omega
      have k1 : (k : Int) < pe V * ha V := by omega
      have hkb := kk_bd hV k0 k1
      have hsd := stp_sides hV hT hs k0 k1
      have hfi := free_iff hV hR hs k0 k1
      refine b_X13_leaves_2 ?_
      rw [hT.ha] at hsd
      rw [hT.pe, hT.ha, stp_eq hV hT k0 k1]
      have go : (stV V s k ≠ -1 → efree V s k → pt σ (stV V s k) = pt σ s) → in32 ((k : Int) + 1) ∧ WP mX13_leaves 2 [vR 14 0, vI s, vI ((k : Int) + 1), vU] [] σ Q := fun hz => ⟨by unfold in32; omega, ih (k + 1) (by omega) (fun k' hk' => by
        by_cases e : k' = k
        · rw [e]; exact hz
        · exact hq k' (by omega))⟩
      refine ⟨by unfold in32; omega, fun z => by omega, fun _ => ⟨hsd, fun hc => go (fun z => absurd hc z), fun hc => ⟨⟨by omega, by omega, by omega, by omega, by omega, by omega, by omega, by omega⟩, fun hf => go (fun _ z => absurd (hfi.mpr z) hf), fun hf => ?_⟩⟩⟩
      have hE := k_e hV k0 k1 hc (hfi.mp hf)
      have htb := st_bd hV (hE.st hV hs)
      refine ⟨⟨by omega, by omega⟩, ⟨by omega, by omega⟩, fun he => go (fun _ _ => he), fun hne => ?_⟩
      rw [b2_t ⟨_, hE, hne⟩] at h
      exact h
  exact key (pe V * ha V).toNat 0 (by omega) (fun k' hk' => by omega)
end Parts
