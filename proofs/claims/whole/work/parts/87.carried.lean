/-! ===== likeliest; carried ===== -/
def argm (a b c : Int) : Int := if b < a then (if c < b then 2 else 1) else (if c < a then 2 else 0)
section Like
variable {σ : St} {Q : Res → St → Prop} {V : Vy} {w : Int}
theorem knC_k {τ : St} (f : FR kC σ τ) : knC τ w = knC σ w ∧ τ 7 0 0 = σ 7 0 0 := by
  have g : ∀ c k, 40 ≤ c ∧ c ≤ 45 ∨ c = 7 → τ c 0 k = σ c 0 k := fun c k hc => f c 0 k (fun z => by unfold kC at z; omega)
  refine ⟨?_, g 7 0 (by omega)⟩
  funext i
  unfold knC
  rw [g 7 1 (by omega), show τ 42 0 = σ 42 0 by funext k; exact g 42 k (by omega), show τ 41 0 = σ 41 0 by funext k; exact g 41 k (by omega), show τ 43 0 = σ 43 0 by funext k; exact g 43 k (by omega), show τ 44 0 = σ 44 0 by funext k; exact g 44 k (by omega), show τ 45 0 = σ 45 0 by funext k; exact g 45 k (by omega)]
theorem knM_k {τ : St} (f : FR (fun c i j => kC c i j ∨ kM c i j) σ τ) : knM τ w = knM σ w ∧ τ 14 0 83 = σ 14 0 83 := by
  have g : ∀ c k, 104 ≤ c → τ c 0 k = σ c 0 k := fun c k hc => f c 0 k (fun z => by unfold kC kM at z; omega)
  refine ⟨?_, f 14 0 83 (fun z => by unfold kC kM at z; omega)⟩
  funext i
  unfold knM
  rw [f 14 0 84 (fun z => by unfold kC kM at z; omega), show τ 104 0 = σ 104 0 by funext k; exact g 104 k (by omega), show τ 106 0 = σ 106 0 by funext k; exact g 106 k (by omega), show τ 107 0 = σ 107 0 by funext k; exact g 107 k (by omega), show τ 108 0 = σ 108 0 by funext k; exact g 108 k (by omega), show τ 109 0 = σ 109 0 by funext k; exact g 109 k (by omega)]
theorem pr_likeliest (hI : INV V σ) : PRC mX11_likeliest mX13_likeliest [vR 12 0, vI w, vU, vU, vU, vU] [vR 14 0, vI w, vU, vU, vU, vU] σ := by
  have hV := hI.1.1
  have hS := hI.2.2.2.2.2.2.2.2.2.2.2
  have s4 := hS.2.2.2.1
  have bd : ∀ a : Int, 0 ≤ a → a ≤ 2 → 0 ≤ (es (anV V a) (knC σ w) (σ 7 0 0).toNat).2 ∧ (es (anV V a) (knC σ w) (σ 7 0 0).toNat).2 ≤ 600 := fun a h0 h2 => by
    obtain ⟨o1, o2, o3⟩ := es_ok (hV.anv h0 h2) (kn := knC σ w) (σ 7 0 0).toNat (fun k hk => kn_st hS.anv (by omega))
    omega
  have b0 := bd 0 (by omega) (by omega)
  have b1 := bd 1 (by omega) (by omega)
  have b2' := bd 2 (by omega) (by omega)
  have em : ∀ a : Int, (es (anV V a) (knC σ w) (σ 7 0 0).toNat).2 = (es (anV V a) (knM σ w) (σ 14 0 83).toNat).2 := fun a => by rw [es_CM hS]
  refine PRC.mk2 (R := RG (0 ≤ w ∧ w ≤ 999) (fun y => y = argm (es (anV V 0) (knC σ w) (σ 7 0 0).toNat).2 (es (anV V 1) (knC σ w) (σ 7 0 0).toNat).2 (es (anV V 2) (knC σ w) (σ 7 0 0).toNat).2)) (R' := RG (0 ≤ w ∧ w ≤ 999) (fun y => y = argm (es (anV V 0) (knC σ w) (σ 7 0 0).toNat).2 (es (anV V 1) (knC σ w) (σ 7 0 0).toNat).2 (es (anV V 2) (knC σ w) (σ 7 0 0).toNat).2)) hI (fun Q h => ?_) (fun τ Q f0 h1 h2 h => ?_) (fun a b => RG.un Iff.rfl (fun a b _ e e' => by rw [e, e']))
  · have no : ¬ (0 ≤ w ∧ w ≤ 999) → Q (.inl (some (vI (-2)))) σ := fun z => h σ _ FR.rf hI.2.2.2.1 hI.2.2.2.2.1 (Or.inr ⟨z, rfl⟩)
    refine b_X11_likeliest_0 ⟨fun z => no (by omega), fun z1 => ⟨fun z2 => ?_, fun z => no (by omega)⟩⟩
    have stp : ∀ (τ : St) (a x l : Int), 0 ≤ a → a ≤ 2 → FR kC σ τ → ILD V τ → ICC V τ → (∀ υ, FR kC σ υ → ILD V υ → ICC V υ → WP mX11_likeliest 35 [vR 12 0, vI w, vI x, vI l, vI a, vU] [vI (es (anV V a) (knC σ w) (σ 7 0 0).toNat).2] υ Q) → WP mX11_likeliest 22 [vR 12 0, vI w, vI x, vI l, vI a, vU] [] τ Q := fun τ a x l h0 h2 f1 l1 c1 k => by
      refine b_X11_likeliest_22 ⟨fun z => by omega, fun _ => ?_⟩
      refine c_slips hV (hI.1.2.1.fr f1 (fun c k hc z => by unfold kC at z; omega)) l1 c1 (hS.fr f1 (by unfold kC; omega)) h0 h2 (fun υ f2 l2 c2 => ?_)
      rw [(knC_k (w := w) f1).1, (knC_k (w := w) f1).2]
      exact k υ (f1.tr f2) l2 c2
    generalize e0 : (es (anV V 0) (knC σ w) (σ 7 0 0).toNat).2 = S0 at *
    generalize e1 : (es (anV V 1) (knC σ w) (σ 7 0 0).toNat).2 = S1 at *
    generalize e2 : (es (anV V 2) (knC σ w) (σ 7 0 0).toNat).2 = S2 at *
    have fin : ∀ (τ : St) (x l : Int), FR kC σ τ → ILD V τ → ICC V τ → x = argm S0 S1 S2 → WP mX11_likeliest 22 [vR 12 0, vI w, vI x, vI l, vI 3, vU] [] τ Q := fun τ x l f1 l1 c1 hx => b_X11_likeliest_22 ⟨fun _ => h τ x f1 l1 c1 (Or.inl ⟨⟨z1, z2⟩, hx⟩), fun z => by omega⟩
    have st2 : ∀ (τ : St) (x l : Int), FR kC σ τ → ILD V τ → ICC V τ → (x = if S1 < S0 then 1 else 0) → l = min S0 S1 → WP mX11_likeliest 22 [vR 12 0, vI w, vI x, vI l, vI 2, vU] [] τ Q := fun τ x l f1 l1 c1 hx hl => by
      refine stp τ 2 x l (by omega) (by omega) f1 l1 c1 (fun υ f2 l2 c2 => ?_)
      rw [e2]
      refine b_X11_likeliest_35 ⟨fun z => ⟨by unfold in32; omega, fin υ x l f2 l2 c2 ?_⟩, fun z => ⟨by unfold in32; omega, fin υ 2 S2 f2 l2 c2 ?_⟩⟩
      · unfold argm; rw [hx]
        by_cases q : S1 < S0
        · rw [if_pos q, if_pos q, if_neg (by omega)]
        · rw [if_neg q, if_neg q, if_neg (by omega)]
      · unfold argm
        by_cases q : S1 < S0
        · rw [if_pos q, if_pos (by omega)]
        · rw [if_neg q, if_pos (by omega)]
    refine stp σ 0 (-1) 1000000 (by omega) (by omega) FR.rf hI.2.2.2.1 hI.2.2.2.2.1 (fun υ f2 l2 c2 => ?_)
    rw [e0]
    refine b_X11_likeliest_35 ⟨fun z => by omega, fun z => ⟨by unfold in32; omega, stp υ 1 0 S0 (by omega) (by omega) f2 l2 c2 (fun ω f3 l3 c3 => ?_)⟩⟩
    rw [e1]
    refine b_X11_likeliest_35 ⟨fun z => ⟨by unfold in32; omega, st2 ω 0 S0 f3 l3 c3 (by rw [if_neg (by omega)]) (by omega)⟩, fun z => ⟨by unfold in32; omega, st2 ω 1 S1 f3 l3 c3 (by rw [if_pos z]) (by omega)⟩⟩
  · have no : ¬ (0 ≤ w ∧ w ≤ 999) → Q (.inl (some (vI (-2)))) τ := fun z => h τ _ FR.rf h2 (Or.inr ⟨z, rfl⟩)
    refine b_X13_likeliest_0 ⟨fun z1 => ?_, fun z => no z⟩
    have stp : ∀ (υ : St) (a x l : Int), 0 ≤ a → a ≤ 2 → FR kM τ υ → (∀ ω, FR kM τ ω → IMD V ω → WP mX13_likeliest 35 [vR 14 0, vI w, vI x, vI l, vI a, vU] [vI (es (anV V a) (knC σ w) (σ 7 0 0).toNat).2] ω Q) → WP mX13_likeliest 22 [vR 14 0, vI w, vI x, vI l, vI a, vU] [] υ Q := fun υ a x l h0 h2' f1 k => by
      have f3 : FR (fun c i j => kC c i j ∨ kM c i j) σ υ := (f0.wk (fun c i j z => Or.inl z)).tr (f1.wk (fun c i j z => Or.inr z))
      refine b_X13_likeliest_22 ⟨fun z => by omega, fun _ => d_explainedBy (h1.fr f1 (by unfold kM; omega)) (hS.fr f3 (by unfold kC kM; omega)) h0 h2' (fun ω f2 m2 => ?_)⟩
      rw [(knM_k (w := w) f3).1, (knM_k (w := w) f3).2, ← em a]
      exact k ω (f1.tr f2) m2
    generalize e0 : (es (anV V 0) (knC σ w) (σ 7 0 0).toNat).2 = S0 at *
    generalize e1 : (es (anV V 1) (knC σ w) (σ 7 0 0).toNat).2 = S1 at *
    generalize e2 : (es (anV V 2) (knC σ w) (σ 7 0 0).toNat).2 = S2 at *
    have fin : ∀ (υ : St) (x l : Int), FR kM τ υ → IMD V υ → x = argm S0 S1 S2 → WP mX13_likeliest 22 [vR 14 0, vI w, vI x, vI l, vI 3, vU] [] υ Q := fun υ x l f1 m1 hx => b_X13_likeliest_22 ⟨fun _ => h υ x f1 m1 (Or.inl ⟨z1, hx⟩), fun z => by omega⟩
    have st2 : ∀ (υ : St) (x l : Int), FR kM τ υ → (x = if S1 < S0 then 1 else 0) → l = min S0 S1 → WP mX13_likeliest 22 [vR 14 0, vI w, vI x, vI l, vI 2, vU] [] υ Q := fun υ x l f1 hx hl => by
      have hx' : x = 0 ∨ x = 1 := by rw [hx]; split <;> omega
      refine stp υ 2 x l (by omega) (by omega) f1 (fun ω f2 m2 => ?_)
      rw [e2]
      refine b_X13_likeliest_35 ⟨fun z => by omega, fun _ => ⟨fun z => by omega, fun _ => ⟨fun z => ⟨by unfold in32; omega, fin ω 2 S2 f2 m2 ?_⟩, fun z => ⟨by unfold in32; omega, fin ω x l f2 m2 ?_⟩⟩⟩⟩
      · unfold argm
        by_cases q : S1 < S0
        · rw [if_pos q, if_pos (by omega)]
        · rw [if_neg q, if_pos (by omega)]
      · unfold argm; rw [hx]
        by_cases q : S1 < S0
        · rw [if_pos q, if_pos q, if_neg (by omega)]
        · rw [if_neg q, if_neg q, if_neg (by omega)]
    refine stp τ 0 (-1) 0 (by omega) (by omega) FR.rf (fun υ f2 m2 => ?_)
    rw [e0]
    refine b_X13_likeliest_35 ⟨fun z => by omega, fun _ => ⟨fun _ => ⟨by unfold in32; omega, stp υ 1 0 S0 (by omega) (by omega) f2 (fun ω f3 m3 => ?_)⟩, fun z => absurd rfl z⟩⟩
    rw [e1]
    refine b_X13_likeliest_35 ⟨fun z => by omega, fun _ => ⟨fun z => by omega, fun _ => ⟨fun z => ⟨by unfold in32; omega, st2 ω 1 S1 f3 (by rw [if_pos z]) (by omega)⟩, fun z => ⟨by unfold in32; omega, st2 ω 0 S0 f3 (by rw [if_neg (by omega)]) (by omega)⟩⟩⟩⟩
end Like
/-! sets -/
theorem band_sub {a b : Nat} : band (a : Int) (bxor (b : Int) (-1)) = 0 ↔ ∀ p, p < 32 → a.testBit p = true → b.testBit p = true := by
  unfold band bxor
  rw [Int32.ofInt_toInt, ofN, ofN]
  have e1 : ∀ x : Int32, x.toInt = 0 ↔ x.toBitVec = 0#32 := fun x => ⟨fun h => by
    have : x = 0 := Int32.toInt_inj.1 (h.trans rfl)
    rw [this]; rfl, fun h => by
    have : x = 0 := Int32.toBitVec_inj.1 (h.trans rfl)
    rw [this]; rfl⟩
  rw [e1]
  show (BitVec.ofNat 32 a &&& (BitVec.ofNat 32 b ^^^ BitVec.allOnes 32)) = 0#32 ↔ _
  constructor
  · intro h p hp ha
    have := congrArg (fun v => BitVec.getLsbD v p) h
    simp only [BitVec.getLsbD_and, BitVec.getLsbD_xor, BitVec.getLsbD_ofNat, BitVec.getLsbD_allOnes, BitVec.getLsbD_zero, Nat.zero_testBit, hp, decide_true, Bool.true_and, ha] at this
    revert this
    cases b.testBit p <;> decide
  · intro h
    apply BitVec.eq_of_getLsbD_eq
    intro i hi
    have := h i hi
    simp only [BitVec.getLsbD_and, BitVec.getLsbD_xor, BitVec.getLsbD_ofNat, BitVec.getLsbD_allOnes, BitVec.getLsbD_zero, Nat.zero_testBit, hi, decide_true, Bool.true_and]
    revert this
    cases a.testBit i <;> cases b.testBit i <;> decide
theorem sub_iff {m fr : Int} (h0 : 0 ≤ m) (h1 : m < 1024) (h2 : 0 ≤ fr) (h3 : fr < 1024) : band m (bxor fr (-1)) = 0 ↔ sub m fr := by
  obtain ⟨a, rfl⟩ : ∃ n : Nat, m = n := ⟨m.toNat, by omega⟩
  obtain ⟨b, rfl⟩ : ∃ n : Nat, fr = n := ⟨fr.toNat, by omega⟩
  rw [band_sub]
  refine ⟨fun h => ⟨⟨h0, h1⟩, fun p hp => ?_⟩, fun h p _ hp => h.2 p hp⟩
  have : p < 10 := tbit_lt (m := (a : Int)) (n := 10) (by show ((a : Int)).toNat < 1024; omega) hp
  exact h p (by omega) hp
theorem sub_lt {m fr : Int} {V : Vy} (hV : VOK V) (hf : frN V fr) (h : sub m fr) : m < 2 ^ (pe V).toNat := by
  have : m.toNat < 2 ^ (pe V).toNat := by
    apply Nat.lt_pow_two_of_testBit
    intro i hi
    apply Bool.eq_false_iff.mpr
    intro z
    have := ((hf.2 i).mp (h.2 i z)).1
    omega
  have e : ((2 : Int) ^ (pe V).toNat) = ((2 ^ (pe V).toNat : Nat) : Int) := by push_cast; rfl
  rw [e]
  have := h.1.1
  omega
theorem sub_eq {m fr : Int} (h : sub m fr) (hf : 0 ≤ fr ∧ fr < 1024) (he : bcnt m = bcnt fr) : m = fr := by
  rw [bcnt_c, bcnt_c] at he
  refine bits_ext h.1.1 hf.1 (fun r => ⟨h.2 r, fun z => ?_⟩)
  apply Classical.byContradiction
  intro hn
  have hr : r < 10 := tbit_lt (m := fr) (n := 10) (by show fr.toNat < 1024; omega) z
  have := cnt_lt (P := fun k => tbit m k = true) (Q := fun k => tbit fr k = true) (m := r) (n := 10) hr (fun k _ q => h.2 k q) z hn
  omega
theorem sub_rf {fr : Int} (hf : 0 ≤ fr ∧ fr < 1024) : sub fr fr := ⟨hf, fun _ z => z⟩
theorem bcnt_le {m fr : Int} (h : sub m fr) : bcnt m ≤ bcnt fr := by
  rw [bcnt_c, bcnt_c]
  have := cnt_le (P := fun k => tbit m k = true) (Q := fun k => tbit fr k = true) (n := 10) (fun k _ q => h.2 k q)
  omega
/-! STATES by sets -/
def SOF (V : Vy) (m h g s : Int) : Prop := isSt V s ∧ ∀ p : Nat, (p : Int) < pe V → ke V p = -1 → hab V s p = if tbit m p = true then h else g
section Sof
variable {σ : St} {Q : Res → St → Prop} {V : Vy} {i : Nat}
theorem SOF.un {m h g s t : Int} (hV : VOK V) (a : SOF V m h g s) (b : SOF V m h g t) : s = t := by
  refine st_ext hV a.1.1 b.1.1 (fun p hp => ?_)
  by_cases e : ke V p = -1
  · rw [a.2 p hp e, b.2 p hp e]
  · rw [a.1.2 p hp e, b.1.2 p hp e]
theorem c_allWith {s m x : Int} (hV : VOK V) (hT : VT σ i V) (hP : VP σ i V) (hs : inC V s) (hm : 0 ≤ m ∧ m < 1024) (hx : 0 ≤ x ∧ x < ha V) (h : ∀ t, inC V t → (∀ p : Nat, (p : Int) < pe V → hab V t p = if tbit m p = true then x else hab V s p) → Q (.inl (some (vI t))) σ) : WP mX9_allWith 0 [vR 10 i, vI s, vI m, vI x, vU, vU] [] σ Q := by
  have hpe := hV.pe
  have hha := hV.ha
  have hcod := hV.cod
  refine b_X9_allWith_0 ?_
  have key : ∀ r p : Nat, ((r + p : Nat) : Int) = pe V → ∀ t, inC V t → (∀ q : Nat, (q : Int) < pe V → hab V t q = if q < p ∧ tbit m q = true then x else hab V s q) → WP mX9_allWith 6 [vR 10 i, vU, vI m, vI x, vI t, vI (p : Int)] [] σ Q := by
    intro r
    induction r with
    | zero =>
      intro p hp t ht hq
      refine b_X9_allWith_6 ⟨fun _ => h t ht (fun q hq' => ?_), fun z => by rw [hT.pe] at z; omega⟩
      rw [hq q hq']
      by_cases e : tbit m q = true
      · rw [if_pos ⟨by omega, e⟩, if_pos e]
      · rw [if_neg (fun z => e z.2), if_neg e]
    | succ r ih =>
      intro p hp t ht hq
      have hpw := pw_pos hV p
      have hb := hab_bd hV t p
      have htb := ht
      unfold inC at htb
      refine b_X9_allWith_6 ?_
      rw [hT.pe, hT.ha, Int.toNat_natCast, hP.1 p (by omega), band_eq0 hm.1 hm.2 (by omega) (by omega), band_ne hm.1 hm.2 (by omega) (by omega), Int.toNat_natCast]
      refine ⟨fun z => by omega, fun _ => ⟨fun z => ⟨by unfold in32; omega, ih (p + 1) (by omega) t ht (fun q hq' => ?_)⟩, fun z => ?_⟩⟩
      · rw [hq q hq']
        by_cases e : q < p ∧ tbit m q = true
        · rw [if_pos e, if_pos ⟨by omega, e.2⟩]
        · rw [if_neg e, if_neg (fun w => ?_)]
          by_cases e2 : q = p
          · rw [e2] at w; exact z w.2
          · exact e ⟨by omega, w.2⟩
      · have hwi := wi_in hV ht (p := p) (by omega) hx.1 hx.2
        have hwb := hwi
        unfold inC at hwb
        unfold wi at hwb
        have e : t / ha V ^ p % ha V = hab V t p := rfl
        rw [e]
        refine ⟨⟨by omega, by omega, ht.1, hpw, Int.ediv_nonneg ht.1 (Int.le_of_lt hpw), by omega, by unfold in32; omega, by omega, by omega, by unfold in32; omega, by unfold in32; omega⟩, by unfold in32; omega, ih (p + 1) (by omega) (wi V t p x) hwi (fun q hq' => ?_)⟩
        by_cases e2 : q = p
        · rw [e2, hab_wi_same hV ht.1 hx.1 hx.2, if_pos ⟨by omega, z⟩]
        · rw [hab_wi_ne hV ht.1 hx.1 hx.2 e2, hq q hq']
          by_cases e3 : q < p ∧ tbit m q = true
          · rw [if_pos e3, if_pos ⟨by omega, e3.2⟩]
          · rw [if_neg e3, if_neg (fun w => e3 ⟨by omega, w.2⟩)]
  exact key (pe V).toNat 0 (by omega) s hs (fun q hq => by rw [if_neg (fun z => by omega)])
theorem d_stateOf {m x g : Int} (hV : VOK V) (hT : MT σ V) (hm : 0 ≤ m ∧ m < 1024) (hx : 0 ≤ x ∧ x < ha V) (hg : 0 ≤ g ∧ g < ha V) (h : ∀ t, SOF V m x g t → Q (.inl (some (vI t))) σ) : WP mX13_stateOf 0 [vR 14 0, vI m, vI x, vI g, vU, vU] [] σ Q := by
  have hpe := hV.pe
  have hha := hV.ha
  have hcod := hV.cod
  obtain ⟨H, hH, hb1, hb2⟩ := hN hV
  have ec := cod_n hH
  refine b_X13_stateOf_0 ?_
  have key : ∀ r p : Nat, ((r + p : Nat) : Int) = pe V → ∀ t : Nat, t < H ^ p → (∀ q : Nat, q < p → ((dg H t q : Nat) : Int) = if ke V q ≠ -1 then ke V q else if tbit m q = true then x else g) → WP mX13_stateOf 6 [vR 14 0, vI m, vI x, vI g, vI (t : Int), vI (p : Int)] [] σ Q := by
    intro r
    induction r with
    | zero =>
      intro p hp t ht hq
      refine b_X13_stateOf_6 ⟨fun _ => h t ⟨⟨⟨by omega, ?_⟩, fun q hq' hk => ?_⟩, fun q hq' hk => ?_⟩, fun z => by rw [hT.1] at z; omega⟩
      · rw [ec, show (pe V).toNat = p by omega]; exact_mod_cast ht
      · rw [hab_n hH, hq q (by omega), if_pos hk]
      · rw [hab_n hH, hq q (by omega), if_neg (fun z => z hk)]
    | succ r ih =>
      intro p hp t ht hq
      have hHp : H ^ (p + 1) ≤ H ^ (pe V).toNat := Nat.pow_le_pow_right (by omega) (by omega)
      have e77 : σ 77 0 p = ((H ^ p : Nat) : Int) := by rw [hT.2.2.2.2.2.2.2.1 p (by omega), hH]; push_cast; rfl
      have nx : ∀ v : Int, 0 ≤ v → v < ha V → (v = if ke V p ≠ -1 then ke V p else if tbit m p = true then x else g) → in32 (((H ^ p : Nat) : Int) * v) ∧ in32 ((t : Int) + ((H ^ p : Nat) : Int) * v) ∧ in32 ((p : Int) + 1) ∧ WP mX13_stateOf 6 [vR 14 0, vI m, vI x, vI g, vI ((t : Int) + ((H ^ p : Nat) : Int) * v), vI ((p : Int) + 1)] [] σ Q := fun v hv0 hv1 hv => by
        obtain ⟨y, rfl⟩ : ∃ n : Nat, v = n := ⟨v.toNat, by omega⟩
        have hy : y < H := by omega
        have ew : wiN H t p y = t + H ^ p * y := by
          unfold wiN
          rw [Nat.mod_eq_of_lt ht, Nat.div_eq_of_lt ht, Nat.zero_div, Nat.zero_mul, Nat.zero_add, Nat.mul_comm, Nat.add_comm]
        have hlt : wiN H t p y < H ^ (p + 1) := wi_lt hy (Nat.lt_of_lt_of_le ht (Nat.pow_le_pow_right (by omega) (by omega))) (by omega)
        have ei : ((t : Int) + ((H ^ p : Nat) : Int) * (y : Int)) = ((wiN H t p y : Nat) : Int) := by rw [ew]; push_cast; rfl
        have ei2 : ((H ^ p : Nat) : Int) * (y : Int) = ((H ^ p * y : Nat) : Int) := by push_cast; rfl
        rw [ei, ei2]
        refine ⟨by unfold in32; omega, by unfold in32; omega, by unfold in32; omega, ih (p + 1) (by omega) _ hlt (fun q hq' => ?_)⟩
        by_cases e : q = p
        · rw [e, dg_wi_same hy, ← hv]
        · rw [dg_wi_lt hy (by omega)]; exact hq q (by omega)
      refine b_X13_stateOf_6 ?_
      rw [hT.1, Int.toNat_natCast, e77, hT.2.2.2.2.2.2.1 p (by omega)]
      refine ⟨fun z => by omega, fun _ => ⟨by omega, by omega, fun hk => ⟨fun z => ?_, fun z => ?_⟩, fun hk => ⟨by omega, ?_⟩⟩⟩
      · rw [Ne, band_eq1 hm.1 hm.2 (by omega) (by omega), Int.toNat_natCast] at z
        exact nx g hg.1 hg.2 (by rw [if_neg (fun q => q hk), if_neg z])
      · rw [band_eq1 hm.1 hm.2 (by omega) (by omega), Int.toNat_natCast] at z
        exact nx x hx.1 hx.2 (by rw [if_neg (fun q => q hk), if_pos z])
      · have := (hV.ke p (by omega)).resolve_left hk
        exact nx (ke V p) this.1 this.2 (by rw [if_pos hk])
  exact key (pe V).toNat 0 (by omega) 0 (by rw [Nat.pow_zero]; omega) (fun q hq => by omega)
end Sof
