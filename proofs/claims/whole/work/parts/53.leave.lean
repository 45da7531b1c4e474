/-! ===== RADIUS: what it is; the class' leave ===== -/
def PC (V : Vy) (T : Int → Prop) (u c : Int) : Prop := ∀ P : Int → Int → Prop, (∀ s, T s → P s 0) → (∀ a b c d, isSt V a → P a c → Mv V a b d → P b (c + d)) → P u c
def RAD (V : Vy) (T B : Int → Prop) (r : Int) : Prop := (r = -1 ∧ ∀ u, isSt V u → B u) ∨ (0 ≤ r ∧ (∃ u, isSt V u ∧ ¬ B u ∧ PC V T u r) ∧ ∀ u c, isSt V u → ¬ B u → PC V T u c → r ≤ c)
def FS (V : Vy) (T B : Int → Prop) (L : Int) (K : Int → Int) : Prop := (∀ u, isSt V u → 0 ≤ K u ∧ K u ≤ 1000000 ∧ (K u = 1000000 ∨ PC V T u (K u))) ∧ (∀ u, T u → K u = 0) ∧ (∀ u w c, isSt V u → Mv V u w c → K u < L → K w ≤ K u + c) ∧ (∀ u, isSt V u → K u < L → B u)
def rlxF (V : Vy) (L : Int) (K : Int → Int) (u : Int) : Prop := ∀ w c, Mv V u w c → K w ≤ L + c
def SQF (V : Vy) (L : Int) (s : Int) (K : Int → Int) (q : Int) (qu : Nat → Int) (n : Int) : Prop := (∀ a : Nat, (a : Int) < q → isSt V (qu a) ∧ K (qu a) = L) ∧ (∀ u, isSt V u → K u = L → u = s ∨ rlxF V L K u ∨ ∃ a : Nat, (a : Int) < q ∧ qu a = u) ∧ (0 ≤ q ∧ 0 ≤ n ∧ n + q = nL V L K)
section Leave
variable {i j : Nat} {σ : St} {Q : Res → St → Prop} {V : Vy} {s t L : Int} {T B Tg : Int → Prop} {F K : Int → Int}
theorem PC.z (h : T s) : PC V T s 0 := fun _ h1 _ => h1 s h
theorem PC.st {u w c d : Int} (hu : isSt V u) (h : PC V T u c) (hm : Mv V u w d) : PC V T w (c + d) := fun P h1 h2 => h2 u w c d hu (h P h1 h2) hm
theorem RAD.un {r r' : Int} (h : RAD V T B r) (h' : RAD V T B r') : r = r' := by
  rcases h with ⟨a1, a2⟩ | ⟨a1, ⟨u, u1, u2, u3⟩, a3⟩
  · rcases h' with ⟨b1, b2⟩ | ⟨b1, ⟨w, w1, w2, w3⟩, b3⟩
    · omega
    · exact absurd (a2 w w1) w2
  · rcases h' with ⟨b1, b2⟩ | ⟨b1, ⟨w, w1, w2, w3⟩, b3⟩
    · exact absurd (b2 u u1) u2
    · have := a3 w r' w1 w2 w3
      have := b3 u r u1 u2 u3
      omega
theorem PC.cg {T' : Int → Prop} {u c : Int} (hT : ∀ s, T s → T' s) (h : PC V T u c) : PC V T' u c := fun P h1 h2 => h P (fun s hs => h1 s (hT s hs)) h2
theorem RAD.cg {T' B' : Int → Prop} {r : Int} (hT : ∀ s, T s ↔ T' s) (hB : ∀ s, isSt V s → (B s ↔ B' s)) (h : RAD V T B r) : RAD V T' B' r := by
  rcases h with ⟨a1, a2⟩ | ⟨a1, ⟨u, u1, u2, u3⟩, a3⟩
  · exact Or.inl ⟨a1, fun u hu => (hB u hu).mp (a2 u hu)⟩
  · exact Or.inr ⟨a1, ⟨u, u1, fun z => u2 ((hB u u1).mpr z), u3.cg (fun s hs => (hT s).mp hs)⟩, fun w c w1 w2 w3 => a3 w c w1 (fun z => w2 ((hB w w1).mp z)) (w3.cg (fun s hs => (hT s).mpr hs))⟩
/-- along the least way -/
theorem PC.dist (hV : VOK V) (hD : DIST V Tg F) : ∀ n : Nat, ∀ s c, isSt V s → F s < n → PC V T s c → ∃ u, isSt V u ∧ Tg u ∧ PC V T u (c + F s / 4096) := by
  intro n
  induction n with
  | zero => intro s c hs hn; have := (hD s hs).1; omega
  | succ n ih =>
    intro s c hs hn hp
    by_cases ht : Tg s
    · refine ⟨s, hs, ht, ?_⟩
      rw [(hD s hs).2.1 ht]
      simpa using hp
    · obtain ⟨w, d, w1, w2, w3, w4⟩ := (hD.cm hV s hs).2 ht
      obtain ⟨u, u1, u2, u3⟩ := ih w (c + d) (w1.st hV hs) (by omega) (hp.st hs w1)
      refine ⟨u, u1, u2, ?_⟩
      rw [show c + F s / 4096 = c + d + F w / 4096 by omega]; exact u3
/-- no way is cheaper -/
theorem PC.lo (hV : VOK V) (hD : DIST V Tg F) {u c : Int} (hT : ∀ s, T s → isSt V s) (h : PC V T u c) : isSt V u ∧ ∃ s, T s ∧ F s / 4096 ≤ F u / 4096 + c :=
  h (fun u c => isSt V u ∧ ∃ s, T s ∧ F s / 4096 ≤ F u / 4096 + c) (fun s hs => ⟨hT s hs, s, hs, by omega⟩) (fun a b c d ha h1 hm => by
    obtain ⟨_, s, s1, s2⟩ := h1
    have := hD.cle hV ha hm
    exact ⟨hm.st hV ha, s, s1, by omega⟩)
theorem FS.pc (hV : VOK V) (h : FS V T B L K) (hT : ∀ s, T s → isSt V s) {u c : Int} (hp : PC V T u c) : K u ≤ c ∨ L ≤ c := by
  have := hp (fun u c => isSt V u ∧ (K u ≤ c ∨ L ≤ c)) (fun s hs => ⟨hT s hs, Or.inl (by rw [h.2.1 s hs]; omega)⟩) (fun a b c d ha h1 hm => by
    have hb := hm.bd hV
    refine ⟨hm.st hV ha, ?_⟩
    rcases h1.2 with z | z
    · by_cases e : L ≤ c
      · exact Or.inr (by omega)
      · have := h.2.2.1 a b d ha hm (by omega)
        exact Or.inl (by omega)
    · exact Or.inr (by omega))
  exact this.2
theorem c_forthFrom {n : Int} (hV : VOK V) (hA : VA σ j V) (hR : REP σ j V) (hs : isSt V s) (hBE : ∀ a b, B a → E V a b → B b) (hL0 : 0 ≤ L) (hL30 : L ≤ 30) (hS : FS V T B L (Kf σ i)) (hSL : ∀ u, isSt V u → Kf σ i u = L → B u) (hTs : ∀ s, T s → isSt V s) (hKs : Kf σ i s = L) (hQ : SQF V L s (Kf σ i) (σ 6 i 3) (σ 39 i) n) (h : ∀ τ, FR (sP i) σ τ → FS V T B L (Kf τ i) → (∀ u, isSt V u → Kf τ i u = L → B u) → SQF V L (-1) (Kf τ i) (τ 6 i 3) (τ 39 i) n → Q (.inl none) τ) : WP mX5_forthFrom 0 [vR 6 i, vR 2 j, vI s, vI L, vU, vU] [] σ Q := by
  have hsb := st_bd hV hs
  have hm := hA.2.2.2.2.1
  refine b_X5_forthFrom_0 ?_
  have key : ∀ m k : Nat, ((m + k : Nat) : Int) = σ 10 j 13 → ∀ τ, FR (sP i) σ τ → FS V T B L (Kf τ i) → (∀ u, isSt V u → Kf τ i u = L → B u) → Kf τ i s = L → SQF V L s (Kf τ i) (τ 6 i 3) (τ 39 i) n → (∀ k' : Nat, k' < k → ∀ p : Nat, (p : Int) < pe V → σ 58 j k' = p → Kf τ i (wi V s p (σ 59 j k')) ≤ L + (if tbit (ans V s p) (σ 59 j k').toNat = true then 0 else sl V (σ 59 j k').toNat)) → WP mX5_forthFrom 3 [vR 6 i, vR 2 j, vI s, vI L, vI (k : Int), vU] [] τ Q := by
    intro m
    induction m with
    | zero =>
      intro k hk τ t1 t2 t2' t3 t4 t5
      have e13 : τ 10 j 13 = σ 10 j 13 := t1 _ _ _ (fun z => by unfold sP at z; omega)
      refine b_X5_forthFrom_3 ⟨fun _ => h τ t1 t2 t2' ⟨t4.1, fun u hu hku => ?_, t4.2.2⟩, fun z => by omega⟩
      rcases t4.2.1 u hu hku with z | z
      · right; left
        intro w c hmv
        rw [z] at hmv
        obtain ⟨p, p1, p2, x, x0, x1, x2, x3⟩ := hmv
        obtain ⟨k', k1, k2, k3⟩ := hA.2.2.2.2.2.2 p p1 p2 x x0 x1
        have := t5 k' (by omega) p p1 k2
        rw [k3, ← x2, ← x3] at this
        exact this
      · exact Or.inr z
    | succ m ih =>
      intro k hk τ t1 t2 t2' t3 t4 t5
      have hA' : VA τ j V := hA.fr t1 (fun c k hc z => by unfold sP at z; omega)
      have hR' : REP τ j V := hR.fr t1 (fun k z => by unfold sP at z; omega)
      have e13 : τ 10 j 13 = σ 10 j 13 := t1 _ _ _ (fun z => by unfold sP at z; omega)
      have e58 : τ 58 j k = σ 58 j k := t1 _ _ _ (fun z => by unfold sP at z; omega)
      have e59 : τ 59 j k = σ 59 j k := t1 _ _ _ (fun z => by unfold sP at z; omega)
      have hkt : (k : Int) < τ 10 j 13 := by omega
      obtain ⟨p, p1, p2, p3, p4, p5, p6, p7, p8⟩ := bes_eq hV hA' hR' hs hkt
      have hsd := bes_sides hV hA' hR' hs hkt
      have hbst := isSt_wi hV hs p1 p2 p4 p5
      have hbb := st_bd hV hbst
      have hpe := hV.pe
      have hha := hV.ha
      have hmv : Mv V s (wi V s p (τ 59 j k)) (if tbit (ans V s p) (τ 59 j k).toNat = true then 0 else sl V (τ 59 j k).toNat) := ⟨p, p1, p2, τ 59 j k, p4, p5, rfl, rfl⟩
      have hmb := hmv.bd hV
      obtain ⟨q1, q2⟩ := prc_eq hV hA' hR' hs hbst p1
      rw [hab_wi_same hV hs.1.1 p4 p5] at q1 q2
      have hbi := t2.1 _ hbst
      refine b_X5_forthFrom_3 ?_
      simp only [Int.toNat_natCast]
      rw [p8]
      rw [p8] at hsd
      rw [p3] at hsd ⊢
      rw [q1, q2, e13]
      have uniqp : ∀ p' : Nat, σ 58 j k = p' → p' = p := fun p' hp' => by omega
      have go : ∀ υ, FR (sP i) σ υ → FS V T B L (Kf υ i) → (∀ u, isSt V u → Kf υ i u = L → B u) → Kf υ i s = L → SQF V L s (Kf υ i) (υ 6 i 3) (υ 39 i) n → (∀ w, isSt V w → Kf υ i w ≤ Kf τ i w) → Kf υ i (wi V s p (τ 59 j k)) ≤ L + (if tbit (ans V s p) (τ 59 j k).toNat = true then 0 else sl V (τ 59 j k).toNat) → WP mX5_forthFrom 61 [vR 6 i, vR 2 j, vI s, vI L, vI (k : Int), vU] [] υ Q := fun υ u1 u2 u2' u3 u4 u5 u6 => b_X5_forthFrom_61 ⟨by unfold in32; omega, ih (k + 1) (by omega) υ u1 u2 u2' u3 u4 (fun k' hk' p' hp1 hp' => by
        by_cases e : k' = k
        · subst e
          rw [uniqp p' hp', ← e59]
          exact u6
        · have h7 := t5 k' (by omega) p' hp1 hp'
          obtain ⟨p9, r1, r2, r3, r4, r5⟩ := hA.2.2.2.2.2.1 k' (by omega)
          have e9 : p9 = p' := by omega
          subst e9
          have := u5 _ (isSt_wi hV hs hp1 r2 r4 r5)
          omega)⟩
      refine ⟨fun z => by omega, fun _ => ⟨hsd, ⟨by omega, by omega⟩, fun hle => ?_, fun hgt => ⟨⟨by omega, by omega⟩, ⟨by omega, by omega, by omega, by omega, by omega, by omega, by omega, by omega⟩, by unfold in32; omega, ?_⟩⟩⟩
      · exact go τ t1 t2 t2' t3 t4 (fun w _ => Int.le_refl _) (by have : Kf τ i (wi V s p (τ 59 j k)) ≤ L := hle; omega)
      · have hgt' : L < Kf τ i (wi V s p (τ 59 j k)) := hgt
        have hne : wi V s p (τ 59 j k) ≠ s := by intro z; rw [z, t3] at hgt'; omega
        generalize hb : wi V s p (τ 59 j k) = b at *
        generalize hv : (if tbit (ans V s p) (τ 59 j k).toNat = true then 0 else sl V (τ 59 j k).toNat) = v at *
        have noT : ¬ T b := fun z => by have := t2.2.1 b z; omega
        have kk : ∀ (υ : St), (∀ u, 0 ≤ u → Kf υ i u = if u = b then L + v else Kf τ i u) → L + v < Kf τ i b → FS V T B L (Kf υ i) ∧ (∀ u, isSt V u → Kf υ i u = L → B u) ∧ Kf υ i s = L ∧ (∀ w, isSt V w → Kf υ i w ≤ Kf τ i w) ∧ Kf υ i b ≤ L + v := by
          intro υ hυ hlt
          have hle : ∀ w, isSt V w → Kf υ i w ≤ Kf τ i w := fun w hw => by
            rw [hυ w hw.1.1]
            split
            · rename_i e; rw [e]; omega
            · omega
          have pcs : PC V T s L := by
            have := (t2.1 s hs).2.2
            rw [t3] at this
            exact this.resolve_left (by omega)
          refine ⟨⟨fun u hu => ?_, fun u hu => ?_, fun u w c hu hm hlt => ?_, fun u hu hlt => ?_⟩, fun u hu hl => ?_, ?_, hle, ?_⟩
          · have hi := t2.1 u hu
            rw [hυ u hu.1.1]
            split
            · rename_i e; subst e; exact ⟨by omega, by omega, Or.inr (pcs.st hs hmv)⟩
            · exact hi
          · rw [hυ u (hTs u hu).1.1, if_neg (fun z => noT (by rw [← z]; exact hu))]; exact t2.2.1 u hu
          · rw [hυ u hu.1.1] at hlt ⊢
            by_cases e : u = b
            · rw [if_pos e] at hlt; omega
            · rw [if_neg e] at hlt ⊢
              have := t2.2.2.1 u w c hu hm hlt
              have := hle w (hm.st hV hu)
              omega
          · rw [hυ u hu.1.1] at hlt
            by_cases e : u = b
            · rw [if_pos e] at hlt; omega
            · rw [if_neg e] at hlt; exact t2.2.2.2 u hu hlt
          · rw [hυ u hu.1.1] at hl
            by_cases e : u = b
            · rw [if_pos e] at hl
              have v0 : v = 0 := by omega
              rw [e]
              rw [v0] at hmv
              exact hBE s b (t2' s hs t3) (hmv.E0 hV)
            · rw [if_neg e] at hl; exact t2' u hu hl
          · rw [hυ s hsb.1, if_neg (fun z => hne z.symm)]; exact t3
          · rw [hυ b hbb.1, if_pos rfl]; omega
        have q2' : ∀ (υ : St), (∀ u, 0 ≤ u → Kf υ i u = if u = b then L + v else Kf τ i u) → L + v < Kf τ i b → ∀ u, isSt V u → u ≠ b → Kf υ i u = L → u = s ∨ rlxF V L (Kf υ i) u ∨ ∃ a : Nat, (a : Int) < τ 6 i 3 ∧ τ 39 i a = u := by
          intro υ hυ hlt u hu hub hku
          rw [hυ u hu.1.1, if_neg hub] at hku
          rcases t4.2.1 u hu hku with z | z | z
          · exact Or.inl z
          · right; left
            intro w c hmv
            have h1 := z w c hmv
            have h2 := (kk υ hυ hlt).2.2.2.1 w (hmv.st hV hu)
            omega
          · exact Or.inr (Or.inr z)
        have q1' : ∀ (υ : St), (∀ u, 0 ≤ u → Kf υ i u = if u = b then L + v else Kf τ i u) → ∀ a : Nat, (a : Int) < τ 6 i 3 → isSt V (τ 39 i a) ∧ Kf υ i (τ 39 i a) = L := by
          intro υ hυ a ha
          have := t4.1 a ha
          refine ⟨this.1, ?_⟩
          rw [hυ _ this.1.1.1, if_neg (fun z => by rw [z] at this; omega)]
          exact this.2
        have hq3 := t4.2.2
        refine b_X5_lower_0 ⟨⟨by omega, by omega⟩, fun hlt => ⟨⟨by omega, by omega⟩, fun hvL => ?_, fun hvL => ⟨fun hfull => ?_, fun hroom => ⟨⟨by omega, by omega⟩, by unfold in32; omega, ?_⟩⟩⟩, fun hge => ?_⟩
        · have hυ : ∀ u, 0 ≤ u → Kf (up τ 37 i b.toNat (L + v)) i u = if u = b then L + v else Kf τ i u := fun u hu => kf_up hu hbb.1
          obtain ⟨k1, k1', k2, k3, k4⟩ := kk _ hυ hlt
          refine go _ (t1.u ⟨rfl, by omega⟩) k1 k1' k2 ⟨fun a ha => ?_, fun u hu hku => ?_, ?_⟩ k3 k4
          · rw [up_c (by omega)] at ha
            simp only [up_c (show (39 : Nat) ≠ 37 by omega)]
            exact q1' _ hυ a ha
          · simp only [up_c (show (39 : Nat) ≠ 37 by omega), up_c (show (6 : Nat) ≠ 37 by omega)]
            by_cases e : u = b
            · rw [hυ u hu.1.1, if_pos e] at hku; omega
            · exact q2' _ hυ hlt u hu e hku
          · rw [up_c (by omega), nL_eq (K := Kf τ i) (fun w hw => by
              rw [hυ w hw.1.1]
              split
              · rename_i e; rw [e]; omega
              · exact Iff.rfl)]
            exact hq3
        · have := nL_lt (L := L) hV hbst (K := Kf τ i) (by omega)
          omega
        · have hυ : ∀ u, 0 ≤ u → Kf (up (up (up τ 37 i b.toNat (L + v)) 39 i (τ 6 i 3).toNat b) 6 i 3 (τ 6 i 3 + 1)) i u = if u = b then L + v else Kf τ i u := fun u hu => by rw [kf_o (by omega), kf_o (by omega), kf_up hu hbb.1]
          obtain ⟨k1, k1', k2, k3, k4⟩ := kk _ hυ hlt
          have c6 : (up (up (up τ 37 i b.toNat (L + v)) 39 i (τ 6 i 3).toNat b) 6 i 3 (τ 6 i 3 + 1)) 6 i 3 = τ 6 i 3 + 1 := up_s _ _ _ _ _
          have c39 : ∀ a, (up (up (up τ 37 i b.toNat (L + v)) 39 i (τ 6 i 3).toNat b) 6 i 3 (τ 6 i 3 + 1)) 39 i a = if a = (τ 6 i 3).toNat then b else τ 39 i a := fun a => by
            rw [up_c (by omega)]
            by_cases e : a = (τ 6 i 3).toNat
            · rw [if_pos e, e, up_s]
            · rw [if_neg e, up_j e, up_c (by omega)]
          refine go _ (((t1.u ⟨rfl, by omega⟩).u ⟨rfl, by omega⟩).u ⟨rfl, by omega⟩) k1 k1' k2 ⟨fun a ha => ?_, fun u hu hku => ?_, ?_⟩ k3 k4
          · rw [c6] at ha
            rw [c39 a]
            by_cases e : a = (τ 6 i 3).toNat
            · rw [if_pos e]
              exact ⟨hbst, by rw [hυ b hbb.1, if_pos rfl]; exact hvL⟩
            · rw [if_neg e]; exact q1' _ hυ a (by omega)
          · by_cases e : u = b
            · right; right
              exact ⟨(τ 6 i 3).toNat, by rw [c6]; omega, by rw [c39, if_pos rfl, e]⟩
            · rcases q2' _ hυ hlt u hu e hku with z | z | ⟨a, z1, z2⟩
              · exact Or.inl z
              · exact Or.inr (Or.inl z)
              · exact Or.inr (Or.inr ⟨a, by rw [c6]; omega, by rw [c39, if_neg (by omega)]; exact z2⟩)
          · rw [c6, nL_add hV hbst (K := Kf τ i) (by omega) (by rw [hυ b hbb.1, if_pos rfl]; exact hvL) (fun w hw hwb => by rw [hυ w hw.1.1, if_neg hwb])]
            omega
        · exact go τ t1 t2 t2' t3 t4 (fun w _ => Int.le_refl _) hge
  exact key (σ 10 j 13).toNat 0 (by omega) σ FR.rf hS hSL hKs hQ (fun k' hk' => by omega)
theorem c_settleForth (hV : VOK V) (hA : VA σ j V) (hR : REP σ j V) (hBE : ∀ a b, B a → E V a b → B b) (hL0 : 0 ≤ L) (hL30 : L ≤ 30) (hS : FS V T B L (Kf σ i)) (hSL : ∀ u, isSt V u → Kf σ i u = L → B u) (hTs : ∀ s, T s → isSt V s) (hQ : SQF V L (-1) (Kf σ i) (σ 6 i 3) (σ 39 i) 0) (h : ∀ τ, FR (sP i) σ τ → FS V T B (L + 1) (Kf τ i) → Q (.inl none) τ) : WP mX5_settleForth 0 [vR 6 i, vR 2 j, vI L, vU] [] σ Q := by
  refine b_X5_settleForth_0 ?_
  have fin : ∀ (τ : St) (x : Int), FR (sP i) σ τ → FS V T B L (Kf τ i) → (∀ u, isSt V u → Kf τ i u = L → B u) → SQF V L (-1) (Kf τ i) (τ 6 i 3) (τ 39 i) x → τ 6 i 3 ≤ 0 → Q (.inl none) τ := fun τ x t1 t2 t2' t3 hq => by
    refine h τ t1 ⟨t2.1, t2.2.1, fun u w c hu hm hlt => ?_, fun u hu hlt => ?_⟩
    · by_cases e : Kf τ i u = L
      · rcases t3.2.1 u hu e with z | z | ⟨a, a1, -⟩
        · have := st_bd hV hu; omega
        · have := z w c hm; omega
        · omega
      · exact t2.2.2.1 u w c hu hm (by omega)
    · by_cases e : Kf τ i u = L
      · exact t2' u hu e
      · exact t2.2.2.2 u hu (by omega)
  have key : ∀ (m : Nat) (τ : St) (x : Int), FR (sP i) σ τ → FS V T B L (Kf τ i) → (∀ u, isSt V u → Kf τ i u = L → B u) → SQF V L (-1) (Kf τ i) (τ 6 i 3) (τ 39 i) x → x + m = 1024 → WP mX5_settleForth 2 [vR 6 i, vR 2 j, vI L, vI x] [] τ Q := by
    intro m
    induction m with
    | zero =>
      intro τ x t1 t2 t2' t3 hx
      have hb := nL_bd V L (Kf τ i)
      have h3 := t3.2.2
      exact b_X5_settleForth_2 ⟨fun _ => fin τ x t1 t2 t2' t3 (by omega), fun z => by omega⟩
    | succ m ih =>
      intro τ x t1 t2 t2' t3 hx
      have hb := nL_bd V L (Kf τ i)
      have h3 := t3.2.2
      refine b_X5_settleForth_2 ⟨fun z => by omega, fun _ => ⟨fun hq => fin τ x t1 t2 t2' t3 hq, fun hq => ⟨by unfold in32; omega, ⟨by omega, by omega⟩, ?_⟩⟩⟩
      have hp := t3.1 (τ 6 i 3 - 1).toNat (by omega)
      have hA' : VA (up τ 6 i 3 (τ 6 i 3 - 1)) j V := hA.fr (t1.u (c := 6) (i := i) (j := 3) ⟨rfl, by omega⟩) (fun c k hc z => by unfold sP at z; omega)
      have hR' : REP (up τ 6 i 3 (τ 6 i 3 - 1)) j V := hR.fr (t1.u (c := 6) (i := i) (j := 3) ⟨rfl, by omega⟩) (fun k z => by unfold sP at z; omega)
      have kf : Kf (up τ 6 i 3 (τ 6 i 3 - 1)) i = Kf τ i := funext (fun u => kf_o (by omega))
      refine c_forthFrom (n := x + 1) hV hA' hR' hp.1 hBE hL0 hL30 (by rw [kf]; exact t2) (by rw [kf]; exact t2') hTs (by rw [kf]; exact hp.2) ?_ (fun υ u1 u2 u2' u3 => ?_)
      · rw [kf, up_s]
        refine ⟨fun a ha => by rw [up_c (by omega)]; exact t3.1 a (by omega), fun u hu hk => ?_, by omega⟩
        rcases t3.2.1 u hu hk with z | z | ⟨a, a1, a2⟩
        · have := st_bd hV hu; omega
        · exact Or.inr (Or.inl z)
        · by_cases e : a = (τ 6 i 3 - 1).toNat
          · left; rw [← a2, e]
          · exact Or.inr (Or.inr ⟨a, by omega, by rw [up_c (by omega)]; exact a2⟩)
      · show WP mX5_settleForth 41 [vR 6 i, vR 2 j, vI L, vI x] [] υ Q
        exact b_X5_settleForth_41 ⟨by unfold in32; omega, ih υ (x + 1) ((t1.u (c := 6) (i := i) (j := 3) ⟨rfl, by omega⟩).tr u1) u2 u2' u3 (by omega)⟩
  exact key 1024 σ 0 FR.rf hS hSL hQ (by omega)
end Leave
