/-! ===== the class' Search: level by level ===== -/
theorem VA.fr {P : Nat → Nat → Nat → Prop} {σ τ : St} {j : Nat} {V : Vy} (h : VA σ j V) (hFr : FR P σ τ) (hP : ∀ c k, c = 10 ∨ (54 ≤ c ∧ c ≤ 61) → ¬ P c j k) : VA τ j V := by
  obtain ⟨hT, hP', hF, hL, hM⟩ := h
  have g : ∀ c k, (c = 10 ∨ (54 ≤ c ∧ c ≤ 61)) → τ c j k = σ c j k := fun c k q => hFr c j k (hP c k q)
  refine ⟨hT.fr hFr (fun c k hc => hP c k (by omega)), ⟨fun q hq => by rw [g 60 q (by omega)]; exact hP'.1 q hq, by rw [g 10 11 (by omega)]; exact hP'.2⟩, ?_, ?_, ?_⟩
  · unfold VF
    rw [g 10 9 (by omega), g 10 10 (by omega)]; exact hF
  · unfold VL
    rw [g 10 12 (by omega)]
    refine ⟨hL.1, fun k hk => ?_, fun k k' hkk hk => ?_, fun t ht => ?_, hL.2.2.2.2⟩
    · rw [g 61 k (by omega)]; exact hL.2.1 k hk
    · rw [g 61 k (by omega), g 61 k' (by omega)]; exact hL.2.2.1 k k' hkk hk
    · obtain ⟨k, k1, k2⟩ := hL.2.2.2.1 t ht
      exact ⟨k, k1, by rw [g 61 k (by omega)]; exact k2⟩
  · unfold VM
    rw [g 10 13 (by omega)]
    refine ⟨hM.1, fun k hk => ?_, fun q hq hk x hx1 hx2 => ?_⟩
    · rw [g 58 k (by omega), g 59 k (by omega)]; exact hM.2.1 k hk
    · obtain ⟨k, k1, k2, k3⟩ := hM.2.2 q hq hk x hx1 hx2
      exact ⟨k, k1, by rw [g 58 k (by omega)]; exact k2, by rw [g 59 k (by omega)]; exact k3⟩
theorem REP.fr {P : Nat → Nat → Nat → Prop} {σ τ : St} {j : Nat} {V : Vy} (h : REP σ j V) (hFr : FR P σ τ) (hP : ∀ k, ¬ P 23 j k) : REP τ j V := fun s hs p hp => by rw [hFr _ _ _ (hP _)]; exact h s hs p hp
def sP (i : Nat) (c i' j : Nat) : Prop := i' = i ∧ (c = 37 ∨ c = 39 ∨ (c = 6 ∧ j = 3))
def Kf (σ : St) (i : Nat) (u : Int) : Int := σ 37 i u.toNat
def SI (V : Vy) (Tg : Int → Prop) (F : Int → Int) (L : Int) (K : Int → Int) : Prop := (∀ u, isSt V u → F u / 4096 ≤ K u ∧ K u ≤ 1000000 ∧ (F u / 4096 < L → K u = F u / 4096) ∧ (Tg u → K u = 0)) ∧ (∀ u s c, isSt V u → Mv V u s c → F s / 4096 < L → K u ≤ F s / 4096 + c)
def rlx (V : Vy) (L : Int) (K : Int → Int) (u : Int) : Prop := ∀ w c, isSt V w → Mv V w u c → K w ≤ L + c
noncomputable def nL (V : Vy) (L : Int) (K : Int → Int) : Int := (cnt (fun k => isSt V (k : Int) ∧ K (k : Int) = L) 1024 : Nat)
section CS
variable {i j : Nat} {σ : St} {Q : Res → St → Prop} {V : Vy} {s L : Int} {Tg : Int → Prop} {F : Int → Int}
theorem kf_up {τ : St} {u b v : Int} (hu : 0 ≤ u) (hb : 0 ≤ b) : Kf (up τ 37 i b.toNat v) i u = if u = b then v else Kf τ i u := by
  unfold Kf
  by_cases e : u = b
  · rw [if_pos e, e, up_s]
  · rw [if_neg e, up_j (by omega)]
theorem kf_o {τ : St} {u v : Int} {c i' k : Nat} (hc : c ≠ 37) : Kf (up τ c i' k v) i u = Kf τ i u := by
  unfold Kf
  rw [up_c (fun z => hc z.symm)]
theorem nL_bd (V : Vy) (L : Int) (K : Int → Int) : 0 ≤ nL V L K ∧ nL V L K ≤ 1024 := by
  unfold nL
  have := cnt_bd (fun k => isSt V (k : Int) ∧ K (k : Int) = L) 1024
  omega
theorem nL_lt {u : Int} (hV : VOK V) {K : Int → Int} (hu : isSt V u) (h : K u ≠ L) : nL V L K < 1024 := by
  unfold nL
  have hb := st_bd hV hu
  have := cnt_lt (P := fun k => isSt V (k : Int) ∧ K (k : Int) = L) (Q := fun _ => True) (m := u.toNat) (n := 1024) (by omega) (fun _ _ _ => trivial) trivial (by rw [show ((u.toNat : Nat) : Int) = u by omega]; exact fun z => h z.2)
  have := cnt_bd (fun _ => True) 1024
  omega
theorem nL_add {u : Int} (hV : VOK V) {K K' : Int → Int} (hu : isSt V u) (h : K u ≠ L) (h' : K' u = L) (ho : ∀ w, isSt V w → w ≠ u → (K w = L ↔ K' w = L)) : nL V L K' = nL V L K + 1 := by
  unfold nL
  have hb := st_bd hV hu
  have := cnt_add (P := fun k => isSt V (k : Int) ∧ K (k : Int) = L) (Q := fun k => isSt V (k : Int) ∧ K' (k : Int) = L) (m := u.toNat) (n := 1024) (by omega) (fun k _ hk => ⟨fun z => ⟨z.1, (ho k z.1 (by omega)).mp z.2⟩, fun z => ⟨z.1, (ho k z.1 (by omega)).mpr z.2⟩⟩) (by rw [show ((u.toNat : Nat) : Int) = u by omega]; exact ⟨hu, h'⟩) (by rw [show ((u.toNat : Nat) : Int) = u by omega]; exact fun z => h z.2)
  rw [this]
  push_cast
  rfl
theorem nL_eq {K K' : Int → Int} (ho : ∀ w, isSt V w → (K w = L ↔ K' w = L)) : nL V L K' = nL V L K := by
  unfold nL
  rw [cnt_eq (P := fun k => isSt V (k : Int) ∧ K' (k : Int) = L) (Q := fun k => isSt V (k : Int) ∧ K (k : Int) = L) (fun k _ => ⟨fun z => ⟨z.1, (ho k z.1).mpr z.2⟩, fun z => ⟨z.1, (ho k z.1).mp z.2⟩⟩)]
/-- all that cost L are in the queue, or what comes to them is told -/
def SQv (V : Vy) (L : Int) (s : Int) (K : Int → Int) (q : Int) (qu : Nat → Int) (n : Int) : Prop := (∀ a : Nat, (a : Int) < q → isSt V (qu a) ∧ K (qu a) = L) ∧ (∀ u, isSt V u → K u = L → u = s ∨ rlx V L K u ∨ ∃ a : Nat, (a : Int) < q ∧ qu a = u) ∧ (0 ≤ q ∧ 0 ≤ n ∧ n + q = nL V L K)
theorem c_backFrom {n : Int} (hV : VOK V) (hA : VA σ j V) (hR : REP σ j V) (hs : isSt V s) (hD : DIST V Tg F) (hFs : F s / 4096 = L) (hS : SI V Tg F L (Kf σ i)) (hKs : Kf σ i s = L) (hQ : SQv V L s (Kf σ i) (σ 6 i 3) (σ 39 i) n) (h : ∀ τ, FR (sP i) σ τ → SI V Tg F L (Kf τ i) → SQv V L (-1) (Kf τ i) (τ 6 i 3) (τ 39 i) n → Q (.inl none) τ) : WP mX5_backFrom 0 [vR 6 i, vR 2 j, vI s, vI L, vU, vU] [] σ Q := by
  have hsb := st_bd hV hs
  have hL0 : 0 ≤ L := by rw [← hFs]; have := (hD s hs).1; omega
  have hL30 : L ≤ 1000000 := by have := (hS.1 s hs).2.1; omega
  have hm := hA.2.2.2.2.1
  refine b_X5_backFrom_0 ?_
  have key : ∀ m k : Nat, ((m + k : Nat) : Int) = σ 10 j 13 → ∀ τ, FR (sP i) σ τ → SI V Tg F L (Kf τ i) → Kf τ i s = L → SQv V L s (Kf τ i) (τ 6 i 3) (τ 39 i) n → (∀ k' : Nat, k' < k → ∀ p : Nat, (p : Int) < pe V → σ 58 j k' = p → Kf τ i (wi V s p (σ 59 j k')) ≤ L + (if tbit (ans V (wi V s p (σ 59 j k')) p) (hab V s p).toNat = true then 0 else sl V (hab V s p).toNat)) → WP mX5_backFrom 3 [vR 6 i, vR 2 j, vI s, vI L, vI (k : Int), vU] [] τ Q := by
    intro m
    induction m with
    | zero =>
      intro k hk τ t1 t2 t3 t4 t5
      have hA' : VA τ j V := hA.fr t1 (fun c k hc z => by unfold sP at z; omega)
      have e13 : τ 10 j 13 = σ 10 j 13 := t1 _ _ _ (fun z => by unfold sP at z; omega)
      refine b_X5_backFrom_3 ⟨fun _ => h τ t1 t2 ⟨t4.1, fun u hu hku => ?_, t4.2.2⟩, fun z => by omega⟩
      rcases t4.2.1 u hu hku with z | z
      · right; left
        intro w c hw hmv
        rw [z] at hmv
        obtain ⟨p, p1, p2, x, x0, x1, x2, x3⟩ := hmv
        have hb := hab_bd hV w p
        have ew : wi V s p (hab V w p) = w := by rw [x2, wi_wi hV hw.1.1 x0 x1, wi_self]
        have eh : hab V s p = x := by rw [x2, hab_wi_same hV hw.1.1 x0 x1]
        obtain ⟨k', k1, k2, k3⟩ := hA.2.2.2.2.2.2 p p1 p2 (hab V w p) hb.1 hb.2
        have := t5 k' (by omega) p p1 k2
        rw [k3, ew, eh, ← x3] at this
        exact this
      · exact Or.inr z
    | succ m ih =>
      intro k hk τ t1 t2 t3 t4 t5
      have hA' : VA τ j V := hA.fr t1 (fun c k hc z => by unfold sP at z; omega)
      have hR' : REP τ j V := hR.fr t1 (fun k z => by unfold sP at z; omega)
      have e13 : τ 10 j 13 = σ 10 j 13 := t1 _ _ _ (fun z => by unfold sP at z; omega)
      have e58 : τ 58 j k = σ 58 j k := t1 _ _ _ (fun z => by unfold sP at z; omega)
      have e59 : τ 59 j k = σ 59 j k := t1 _ _ _ (fun z => by unfold sP at z; omega)
      have hkt : (k : Int) < τ 10 j 13 := by omega
      obtain ⟨p, p1, p2, p3, p4, p5, p6, p7, p8⟩ := bes_eq hV hA' hR' hs hkt
      have hsd := bes_sides hV hA' hR' hs hkt
      have hbst := isSt_wi hV hs p1 p2 p4 p5
      have hbb := st_bd hV hbst
      have hpe := hV.pe
      have hha := hV.ha
      have hbs := hab_bd hV s p
      have hmv : Mv V (wi V s p (τ 59 j k)) s (if tbit (ans V (wi V s p (τ 59 j k)) p) (hab V s p).toNat = true then 0 else sl V (hab V s p).toNat) := ⟨p, p1, p2, hab V s p, hbs.1, hbs.2, by rw [wi_wi hV hs.1.1 p4 p5, wi_self], rfl⟩
      have hmb := hmv.bd hV
      obtain ⟨q1, q2⟩ := prc_eq hV hA' hR' hbst hs p1
      have hcle := hD.cle hV hbst hmv
      rw [hFs] at hcle
      have hbi := t2.1 _ hbst
      have hsl := hV.sl (hab V s p).toNat (by omega)
      refine b_X5_backFrom_3 ?_
      simp only [Int.toNat_natCast]
      rw [p8]
      rw [p8] at hsd
      rw [p3] at hsd ⊢
      rw [q1, q2, e13]
      have uniqp : ∀ p' : Nat, σ 58 j k = p' → p' = p := fun p' hp' => by omega
      have go : ∀ υ, FR (sP i) σ υ → SI V Tg F L (Kf υ i) → Kf υ i s = L → SQv V L s (Kf υ i) (υ 6 i 3) (υ 39 i) n → (∀ w, isSt V w → Kf υ i w ≤ Kf τ i w) → Kf υ i (wi V s p (τ 59 j k)) ≤ L + (if tbit (ans V (wi V s p (τ 59 j k)) p) (hab V s p).toNat = true then 0 else sl V (hab V s p).toNat) → WP mX5_backFrom 61 [vR 6 i, vR 2 j, vI s, vI L, vI (k : Int), vU] [] υ Q := fun υ u1 u2 u3 u4 u5 u6 => b_X5_backFrom_61 ⟨by unfold in32; omega, ih (k + 1) (by omega) υ u1 u2 u3 u4 (fun k' hk' p' hp1 hp' => by
        by_cases e : k' = k
        · subst e
          rw [uniqp p' hp', ← e59]
          exact u6
        · have h7 := t5 k' (by omega) p' hp1 hp'
          obtain ⟨p9, r1, r2, r3, r4, r5⟩ := hA.2.2.2.2.2.1 k' (by omega)
          have e9 : p9 = p' := by omega
          subst e9
          have := u5 _ (isSt_wi hV hs hp1 r2 r4 r5)
          omega)⟩
      refine ⟨fun z => by omega, fun _ => ⟨hsd, ⟨by omega, by omega⟩, fun hle => ?_, fun hgt => ⟨⟨by omega, by omega⟩, ⟨by omega, by omega, by omega, by omega, by omega, by omega, by omega, by omega⟩, by unfold in32; omega, ?_⟩⟩⟩
      · exact go τ t1 t2 t3 t4 (fun w _ => Int.le_refl _) (by have : Kf τ i (wi V s p (τ 59 j k)) ≤ L := hle; omega)
      · have hgt' : L < Kf τ i (wi V s p (τ 59 j k)) := hgt
        have hne : wi V s p (τ 59 j k) ≠ s := by intro z; rw [z, t3] at hgt'; omega
        have noT : ¬ Tg (wi V s p (τ 59 j k)) := fun z => by have := hbi.2.2.2 z; omega
        have noL : ¬ F (wi V s p (τ 59 j k)) / 4096 < L := fun z => by have := hbi.2.2.1 z; omega
        generalize hb : wi V s p (τ 59 j k) = b at *
        generalize hv : (if tbit (ans V b p) (hab V s p).toNat = true then 0 else sl V (hab V s p).toNat) = v at *
        -- K behind the change
        have kk : ∀ (υ : St), (∀ u, 0 ≤ u → Kf υ i u = if u = b then L + v else Kf τ i u) → L + v < Kf τ i b → SI V Tg F L (Kf υ i) ∧ Kf υ i s = L ∧ (∀ w, isSt V w → Kf υ i w ≤ Kf τ i w) ∧ Kf υ i b ≤ L + v := by
          intro υ hυ hlt
          have hle : ∀ w, isSt V w → Kf υ i w ≤ Kf τ i w := fun w hw => by
            rw [hυ w hw.1.1]
            split
            · rename_i e; rw [e]; omega
            · omega
          refine ⟨⟨fun u hu => ?_, fun u w c hu hm hlt => ?_⟩, ?_, hle, ?_⟩
          · have hi := t2.1 u hu
            rw [hυ u hu.1.1]
            split
            · rename_i e; subst e; exact ⟨by omega, by omega, fun z => absurd z noL, fun z => absurd z noT⟩
            · exact hi
          · have := t2.2 u w c hu hm hlt
            have := hle u hu
            omega
          · rw [hυ s hsb.1, if_neg (fun z => hne z.symm)]; exact t3
          · rw [hυ b hbb.1, if_pos rfl]; omega
        have q2' : ∀ (υ : St), (∀ u, 0 ≤ u → Kf υ i u = if u = b then L + v else Kf τ i u) → L + v < Kf τ i b → ∀ u, isSt V u → u ≠ b → Kf υ i u = L → u = s ∨ rlx V L (Kf υ i) u ∨ ∃ a : Nat, (a : Int) < τ 6 i 3 ∧ τ 39 i a = u := by
          intro υ hυ hlt u hu hub hku
          rw [hυ u hu.1.1, if_neg hub] at hku
          rcases t4.2.1 u hu hku with z | z | z
          · exact Or.inl z
          · right; left
            intro w c hw hmv
            have h1 := z w c hw hmv
            have h2 := (kk υ hυ hlt).2.2.1 w hw
            omega
          · exact Or.inr (Or.inr z)
        have q1' : ∀ (υ : St), (∀ u, 0 ≤ u → Kf υ i u = if u = b then L + v else Kf τ i u) → ∀ a : Nat, (a : Int) < τ 6 i 3 → isSt V (τ 39 i a) ∧ Kf υ i (τ 39 i a) = L := by
          intro υ hυ a ha
          have := t4.1 a ha
          refine ⟨this.1, ?_⟩
          rw [hυ _ this.1.1.1, if_neg (fun z => by rw [z] at this; omega)]
          exact this.2
        have hq3 := t4.2.2
        refine b_X5_lower_0 ⟨⟨by omega, by omega⟩, fun hlt => ⟨⟨by omega, by omega⟩, fun hvL => ?_, fun hvL => ⟨fun hfull => ?_, fun hroom => ⟨⟨by omega, by omega⟩, by unfold in32; omega, ?_⟩⟩⟩, fun hge => ?_⟩
        · have hυ : ∀ u, 0 ≤ u → Kf (up τ 37 i b.toNat (L + v)) i u = if u = b then L + v else Kf τ i u := fun u hu => kf_up hu hbb.1
          obtain ⟨k1, k2, k3, k4⟩ := kk _ hυ hlt
          refine go _ (t1.u ⟨rfl, by omega⟩) k1 k2 ⟨fun a ha => ?_, fun u hu hku => ?_, ?_⟩ k3 k4
          · rw [up_c (by omega)] at ha
            simp only [up_c (show (39 : Nat) ≠ 37 by omega)]
            exact q1' _ hυ a ha
          · simp only [up_c (show (39 : Nat) ≠ 37 by omega), up_c (show (6 : Nat) ≠ 37 by omega)]
            by_cases e : u = b
            · rw [hυ u hu.1.1, if_pos e] at hku; omega
            · exact q2' _ hυ hlt u hu e hku
          · rw [up_c (by omega), nL_eq (K := Kf τ i) (fun w hw => by
              rw [hυ w hw.1.1]
              split
              · rename_i e; rw [e]; omega
              · exact Iff.rfl)]
            exact hq3
        · have := nL_lt (L := L) hV hbst (K := Kf τ i) (by omega)
          omega
        · have hυ : ∀ u, 0 ≤ u → Kf (up (up (up τ 37 i b.toNat (L + v)) 39 i (τ 6 i 3).toNat b) 6 i 3 (τ 6 i 3 + 1)) i u = if u = b then L + v else Kf τ i u := fun u hu => by rw [kf_o (by omega), kf_o (by omega), kf_up hu hbb.1]
          obtain ⟨k1, k2, k3, k4⟩ := kk _ hυ hlt
          have c6 : (up (up (up τ 37 i b.toNat (L + v)) 39 i (τ 6 i 3).toNat b) 6 i 3 (τ 6 i 3 + 1)) 6 i 3 = τ 6 i 3 + 1 := up_s _ _ _ _ _
          have c39 : ∀ a, (up (up (up τ 37 i b.toNat (L + v)) 39 i (τ 6 i 3).toNat b) 6 i 3 (τ 6 i 3 + 1)) 39 i a = if a = (τ 6 i 3).toNat then b else τ 39 i a := fun a => by
            rw [up_c (by omega)]
            by_cases e : a = (τ 6 i 3).toNat
            · rw [if_pos e, e, up_s]
            · rw [if_neg e, up_j e, up_c (by omega)]
          refine go _ (((t1.u ⟨rfl, by omega⟩).u ⟨rfl, by omega⟩).u ⟨rfl, by omega⟩) k1 k2 ⟨fun a ha => ?_, fun u hu hku => ?_, ?_⟩ k3 k4
          · rw [c6] at ha
            rw [c39 a]
            by_cases e : a = (τ 6 i 3).toNat
            · rw [if_pos e]
              exact ⟨hbst, by rw [hυ b hbb.1, if_pos rfl]; exact hvL⟩
            · rw [if_neg e]; exact q1' _ hυ a (by omega)
          · by_cases e : u = b
            · right; right
              exact ⟨(τ 6 i 3).toNat, by rw [c6]; omega, by rw [c39, if_pos rfl, e]⟩
            · rcases q2' _ hυ hlt u hu e hku with z | z | ⟨a, z1, z2⟩
              · exact Or.inl z
              · exact Or.inr (Or.inl z)
              · exact Or.inr (Or.inr ⟨a, by rw [c6]; omega, by rw [c39, if_neg (by omega)]; exact z2⟩)
          · rw [c6, nL_add hV hbst (K := Kf τ i) (by omega) (by rw [hυ b hbb.1, if_pos rfl]; exact hvL) (fun w hw hwb => by rw [hυ w hw.1.1, if_neg hwb])]
            omega
        · exact go τ t1 t2 t3 t4 (fun w _ => Int.le_refl _) hge
  exact key (σ 10 j 13).toNat 0 (by omega) σ FR.rf hS hKs hQ (fun k' hk' => by omega)
theorem c_collect (hV : VOK V) (hA : VA σ j V) (h : ∀ τ, FR (sP i) σ τ → (∀ u, Kf τ i u = Kf σ i u) → (∀ a : Nat, (a : Int) < τ 6 i 3 → isSt V (τ 39 i a) ∧ Kf σ i (τ 39 i a) = L) → (∀ u, isSt V u → Kf σ i u = L → ∃ a : Nat, (a : Int) < τ 6 i 3 ∧ τ 39 i a = u) → τ 6 i 3 = nL V L (Kf σ i) → Q (.inl none) τ) : WP mX5_collect 0 [vR 6 i, vR 2 j, vI L, vU, vU] [] σ Q := by
  obtain ⟨hT, hP', hF, hL, hM⟩ := hA
  have hL1 := hL.1
  refine b_X5_collect_0 ?_
  let P : Nat → Prop := fun k => isSt V (k : Int) ∧ Kf σ i (k : Int) = L
  let nb : Nat → Nat := fun a => if (a : Int) < σ 10 j 12 then (σ 61 j a).toNat else 1024
  have key : ∀ m k : Nat, ((m + k : Nat) : Int) = σ 10 j 12 → ∀ τ, FR (sP i) σ τ → (∀ u, Kf τ i u = Kf σ i u) → (0 ≤ τ 6 i 3 ∧ τ 6 i 3 ≤ k) → (∀ a : Nat, (a : Int) < τ 6 i 3 → isSt V (τ 39 i a) ∧ Kf σ i (τ 39 i a) = L) → (∀ k' : Nat, k' < k → Kf σ i (σ 61 j k') = L → ∃ a : Nat, (a : Int) < τ 6 i 3 ∧ τ 39 i a = σ 61 j k') → τ 6 i 3 = (cnt P (nb k) : Int) → WP mX5_collect 7 [vR 6 i, vR 2 j, vI L, vI (k : Int), vU] [] τ Q := by
    intro m
    induction m with
    | zero =>
      intro k hk τ t1 t2 t3 t4 t5 t6
      have e12 : τ 10 j 12 = σ 10 j 12 := t1 _ _ _ (fun z => by unfold sP at z; omega)
      refine b_X5_collect_7 ⟨fun _ => h τ t1 t2 t4 (fun u hu hku => ?_) ?_, fun z => by omega⟩
      · obtain ⟨k', k1, k2⟩ := hL.2.2.2.1 u hu
        obtain ⟨a, a1, a2⟩ := t5 k' (by omega) (by rw [k2]; exact hku)
        exact ⟨a, a1, by rw [a2, k2]⟩
      · rw [t6]
        show ((cnt P (if (k : Int) < σ 10 j 12 then (σ 61 j k).toNat else 1024) : Nat) : Int) = _
        rw [if_neg (by omega)]
        rfl
    | succ m ih =>
      intro k hk τ t1 t2 t3 t4 t5 t6
      have e12 : τ 10 j 12 = σ 10 j 12 := t1 _ _ _ (fun z => by unfold sP at z; omega)
      have e61 : τ 61 j k = σ 61 j k := t1 _ _ _ (fun z => by unfold sP at z; omega)
      have hst := hL.2.1 k (by omega)
      have hb := st_bd hV hst
      -- the count up to the next
      have gap : ∀ x, (σ 61 j k).toNat < x → x < nb (k + 1) → ¬ P x := by
        intro x h1 h2 h3
        obtain ⟨k', k1, k2⟩ := hL.2.2.2.1 _ h3.1
        rcases Nat.lt_trichotomy k' k with z | z | z
        · have := hL.2.2.1 k' k z (by omega); omega
        · subst z; omega
        · by_cases e : k' = k + 1
          · subst e
            have : nb (k + 1) = (σ 61 j (k + 1)).toNat := if_pos k1
            omega
          · have h5 := hL.2.2.1 (k + 1) k' (by omega) k1
            have : nb (k + 1) = (σ 61 j (k + 1)).toNat := if_pos (by omega)
            omega
      have nbk : nb k = (σ 61 j k).toNat := if_pos (by omega)
      have nbl : nb k < nb (k + 1) := by
        rw [nbk]
        show _ < (if ((k + 1 : Nat) : Int) < σ 10 j 12 then (σ 61 j (k + 1)).toNat else 1024)
        split
        · rename_i z
          have := hL.2.2.1 k (k + 1) (by omega) z
          omega
        · omega
      have nxt : cnt P (nb (k + 1)) = cnt P ((σ 61 j k).toNat + 1) := cnt_ext (by rw [nbk] at nbl; omega) (fun x h1 h2 => gap x (by omega) h2)
      refine b_X5_collect_7 ?_
      simp only [Int.toNat_natCast]
      rw [e12, e61]
      refine ⟨fun z => by omega, fun _ => ⟨⟨by omega, by omega⟩, ⟨by omega, by omega⟩, fun hne => ⟨by unfold in32; omega, ih (k + 1) (by omega) τ t1 t2 ⟨t3.1, by omega⟩ t4 (fun k' hk' hkl => ?_) ?_⟩, fun he => ⟨⟨by omega, by omega⟩, by unfold in32; omega, by unfold in32; omega, ih (k + 1) (by omega) _ ((t1.u ⟨rfl, by omega⟩).u ⟨rfl, by omega⟩) (fun u => by rw [kf_o (by omega), kf_o (by omega)]; exact t2 u) (by rw [up_s]; omega) (fun a ha => ?_) (fun k' hk' hkl => ?_) ?_⟩⟩⟩
      · by_cases e : k' = k
        · rw [e] at hkl
          exact absurd ((t2 _).trans hkl) hne
        · exact t5 k' (by omega) hkl
      · rw [t6, nxt, cnt_f (P := P) (n := (σ 61 j k).toNat) (fun z => by
          have h1 := z.2
          rw [show (((σ 61 j k).toNat : Nat) : Int) = σ 61 j k by omega] at h1
          exact hne ((t2 _).trans h1)), nbk]
      · rw [up_s] at ha
        rw [up_c (by omega)]
        by_cases e : a = (τ 6 i 3).toNat
        · rw [e, up_s]
          exact ⟨hst, by rw [← t2]; exact he⟩
        · rw [up_j e]; exact t4 a (by omega)
      · by_cases e : k' = k
        · exact ⟨(τ 6 i 3).toNat, by rw [up_s]; omega, by rw [up_c (by omega), up_s, e]⟩
        · obtain ⟨a, a1, a2⟩ := t5 k' (by omega) hkl
          exact ⟨a, by rw [up_s]; omega, by rw [up_c (by omega), up_j (by omega)]; exact a2⟩
      · rw [up_s, t6, nxt, cnt_t (P := P) (n := (σ 61 j k).toNat) (by
          show isSt V _ ∧ Kf σ i _ = L
          rw [show (((σ 61 j k).toNat : Nat) : Int) = σ 61 j k by omega]
          exact ⟨hst, by rw [← t2]; exact he⟩), nbk]
        push_cast
        rfl
  refine key (σ 10 j 12).toNat 0 (by omega) _ (FR.rf.u ⟨rfl, by omega⟩) (fun u => by rw [kf_o (by omega)]) (by rw [up_s]; omega) (fun a ha => by rw [up_s] at ha; omega) (fun k' hk' => by omega) ?_
  rw [up_s, cnt_0]
  · rfl
  · intro x hx z
    have hx2 := z.1
    obtain ⟨k', k1, k2⟩ := hL.2.2.2.1 _ hx2
    have e0 : nb 0 = (σ 61 j 0).toNat := if_pos (by omega)
    by_cases e : k' = 0
    · subst e; omega
    · have := hL.2.2.1 0 k' (by omega) k1
      have := st_bd hV (hL.2.1 0 (by omega))
      omega
theorem c_settleBack (hV : VOK V) (hA : VA σ j V) (hR : REP σ j V) (hD : DIST V Tg F) (hL0 : 0 ≤ L) (hS : SI V Tg F L (Kf σ i)) (h : ∀ τ, FR (sP i) σ τ → SI V Tg F (L + 1) (Kf τ i) → (∀ u, isSt V u → (Kf τ i u = L ↔ F u / 4096 = L)) → Q (.inl (some (vI (nL V L (fun u => F u / 4096))))) τ) : WP mX5_settleBack 0 [vR 6 i, vR 2 j, vI L, vU] [] σ Q := by
  refine b_X5_settleBack_0 (c_collect hV hA (fun τ0 f0 k0 c1 c2 c3 => ?_))
  show WP mX5_settleBack 6 [vR 6 i, vR 2 j, vI L, vU] [] τ0 Q
  refine b_X5_settleBack_6 ?_
  have lev : ∀ τ, SI V Tg F L (Kf τ i) → ∀ u, isSt V u → Kf τ i u = L → F u / 4096 = L := fun τ hS u hu hk => by
    have h1 := hS.1 u hu
    apply Classical.byContradiction
    intro hn
    have := h1.2.2.1 (by omega)
    omega
  have key : ∀ (m : Nat) (τ : St) (x : Int), FR (sP i) σ τ → SI V Tg F L (Kf τ i) → SQv V L (-1) (Kf τ i) (τ 6 i 3) (τ 39 i) x → x + m = 1024 → WP mX5_settleBack 8 [vR 6 i, vR 2 j, vI L, vI x] [] τ Q := by
    intro m
    have fin : ∀ (τ : St) (x : Int), FR (sP i) σ τ → SI V Tg F L (Kf τ i) → SQv V L (-1) (Kf τ i) (τ 6 i 3) (τ 39 i) x → τ 6 i 3 ≤ 0 → Q (.inl (some (vI x))) τ := by
      intro τ x t1 t2 t3 hq
      have back : ∀ n : Nat, ∀ u, isSt V u → F u < n → F u / 4096 = L → Kf τ i u = L := by
        intro n
        induction n with
        | zero => intro u hu hn; have := (hD u hu).1; omega
        | succ n ih =>
          intro u hu hn hc
          have h1 := t2.1 u hu
          by_cases ht : Tg u
          · have := h1.2.2.2 ht
            rw [(hD u hu).2.1 ht] at hc
            have : L = 0 := by omega
            omega
          · obtain ⟨w, c, w1, w2, w3, w4⟩ := (hD.cm hV u hu).2 ht
            have hb := w1.bd hV
            have hws := w1.st hV hu
            by_cases hc0 : c = 0
            · have hk := ih w hws (by omega) (by omega)
              rcases t3.2.1 w hws hk with z | z | ⟨a, a1, -⟩
              · have := st_bd hV hws; omega
              · have := z u c hu w1; omega
              · omega
            · have := t2.2 u w c hu w1 (by omega)
              omega
      have iffL : ∀ u, isSt V u → (Kf τ i u = L ↔ F u / 4096 = L) := fun u hu => ⟨lev τ t2 u hu, fun z => back ((F u).toNat + 1) u hu (by have := (hD u hu).1; omega) z⟩
      have := h τ t1 ⟨fun u hu => ?_, fun u w c hu hm hlt => ?_⟩ iffL
      · have h3 := t3.2.2
        have e : nL V L (fun u => F u / 4096) = x := by
          rw [nL_eq (K := Kf τ i) (K' := fun u => F u / 4096) iffL]
          omega
        rw [e] at this
        exact this
      · have h1 := t2.1 u hu
        refine ⟨h1.1, h1.2.1, fun z => ?_, h1.2.2.2⟩
        by_cases e : F u / 4096 = L
        · rw [(iffL u hu).mpr e, e]
        · exact h1.2.2.1 (by omega)
      · by_cases e : F w / 4096 = L
        · have hws := hm.st hV hu
          rcases t3.2.1 w hws ((iffL w hws).mpr e) with z | z | ⟨a, a1, -⟩
          · have := st_bd hV hws; omega
          · have := z u c hu hm; omega
          · omega
        · exact t2.2 u w c hu hm (by omega)
    induction m with
    | zero =>
      intro τ x t1 t2 t3 hx
      have hb := nL_bd V L (Kf τ i)
      have h3 := t3.2.2
      refine b_X5_settleBack_8 ⟨fun _ => fin τ x t1 t2 t3 (by omega), fun z => by omega⟩
    | succ m ih =>
      intro τ x t1 t2 t3 hx
      have hb := nL_bd V L (Kf τ i)
      have h3 := t3.2.2
      refine b_X5_settleBack_8 ⟨fun z => by omega, fun _ => ⟨fun hq => fin τ x t1 t2 t3 hq, fun hq => ⟨by unfold in32; omega, by unfold in32; omega, ⟨by omega, by omega⟩, ?_⟩⟩⟩
      have hp := t3.1 (τ 6 i 3 - 1).toNat (by omega)
      have hA' : VA (up τ 6 i 3 (τ 6 i 3 - 1)) j V := hA.fr (t1.u (c := 6) (i := i) (j := 3) ⟨rfl, by omega⟩) (fun c k hc z => by unfold sP at z; omega)
      have hR' : REP (up τ 6 i 3 (τ 6 i 3 - 1)) j V := hR.fr (t1.u (c := 6) (i := i) (j := 3) ⟨rfl, by omega⟩) (fun k z => by unfold sP at z; omega)
      have ke : ∀ u, Kf (up τ 6 i 3 (τ 6 i 3 - 1)) i u = Kf τ i u := fun u => kf_o (by omega)
      have kf : Kf (up τ 6 i 3 (τ 6 i 3 - 1)) i = Kf τ i := funext ke
      refine c_backFrom (n := x + 1) hV hA' hR' hp.1 hD (lev τ t2 _ hp.1 hp.2) (by rw [kf]; exact t2) (by rw [kf]; exact hp.2) ?_ (fun υ u1 u2 u3 => ?_)
      · rw [kf, up_s]
        refine ⟨fun a ha => by rw [up_c (by omega)]; exact t3.1 a (by omega), fun u hu hk => ?_, by omega⟩
        rcases t3.2.1 u hu hk with z | z | ⟨a, a1, a2⟩
        · have := st_bd hV hu; omega
        · exact Or.inr (Or.inl z)
        · by_cases e : a = (τ 6 i 3 - 1).toNat
          · left; rw [← a2, e]
          · exact Or.inr (Or.inr ⟨a, by omega, by rw [up_c (by omega)]; exact a2⟩)
      · exact b_X5_settleBack_50 (ih υ (x + 1) ((t1.u (c := 6) (i := i) (j := 3) ⟨rfl, by omega⟩).tr u1) u2 u3 (by omega))
  have ek : Kf τ0 i = Kf σ i := funext k0
  refine key 1024 τ0 0 f0 (by rw [ek]; exact hS) ?_ (by omega)
  rw [ek]
  have := nL_bd V L (Kf σ i)
  exact ⟨c1, fun u hu hk => Or.inr (Or.inr (c2 u hu hk)), by omega⟩
end CS
