/-! ===== carried ===== -/
def OKS (V : Vy) (home : Int → Int) (k h g m : Int) : Prop := ∀ s, SOF V m h g s → BAS V home k s
def CMIN (V : Vy) (home : Int → Int) (k h g fr x : Int) : Prop := sub x fr ∧ OKS V home k h g x ∧ ∀ m, sub m fr → OKS V home k h g m → bcnt x ≤ bcnt m ∧ (bcnt x = bcnt m → x ≤ m)
def CAR (V : Vy) (h g x : Int) : Prop := ∃ home n fr gs, HOME V home n ∧ frN V fr ∧ SOF V fr h g gs ∧ (((home gs = -1 ∨ mc V home (home gs) 1024 ≠ 1) ∧ x = -1) ∨ (home gs ≠ -1 ∧ mc V home (home gs) 1024 = 1 ∧ CMIN V home (home gs) h g fr x))
section Carr
variable {σ : St} {Q : Res → St → Prop} {V : Vy} {h g : Int}
theorem CAR.un {x y : Int} (hV : VOK V) (a : CAR V h g x) (b : CAR V h g y) : x = y := by
  obtain ⟨f, n, fr, gs, a1, a2, a3, a4⟩ := a
  obtain ⟨f', n', fr', gs', b1, b2', b3, b4⟩ := b
  have e1 := a2.un b2'
  subst e1
  have e2 := a3.un hV b3
  subst e2
  have ef := (a1.uniq hV b1).1
  have eh : f gs = f' gs := ef gs a3.1
  have ec : mc V f (f gs) 1024 = mc V f' (f' gs) 1024 := by
    unfold mc
    rw [eh, cnt_eq (P := fun s => isSt V (s : Int) ∧ f (s : Int) = f' gs) (Q := fun s => isSt V (s : Int) ∧ f' (s : Int) = f' gs) (fun s _ => ⟨fun z => ⟨z.1, by rw [← ef _ z.1]; exact z.2⟩, fun z => ⟨z.1, by rw [ef _ z.1]; exact z.2⟩⟩)]
  have eo : ∀ m, OKS V f (f gs) h g m ↔ OKS V f' (f' gs) h g m := fun m => by
    unfold OKS
    rw [eh]
    exact ⟨fun z s hs => (bas_cg ef).mp (z s hs), fun z s hs => (bas_cg ef).mpr (z s hs)⟩
  rcases a4 with ⟨p1, p2⟩ | ⟨p1, p2, p3⟩ <;> rcases b4 with ⟨q1, q2⟩ | ⟨q1, q2, q3⟩
  · omega
  · omega
  · omega
  · have r1 := p3.2.2 y q3.1 ((eo y).mpr q3.2.1)
    have r2 := q3.2.2 x p3.1 ((eo x).mp p3.2.1)
    omega
theorem pr_carried (hI : INV V σ) : PRC mX11_carried mX13_carried [vR 12 0, vI h, vI g, vU, vU, vU, vU, vU, vU, vU] [vR 14 0, vI h, vI g, vU, vU, vU, vU] σ := by
  have hV := hI.1.1
  have hpe := hV.pe
  have hha := hV.ha
  -- a REST comes to itself alone
  have own : ∀ home n s, HOME V home n → isSt V s → home s ≠ -1 → BAS V home (home s) s := fun home n s hH hs hne t ht hr => by
    have hR := ((hH.1 s hs).resolve_left (fun z => hne z.1)).2.2
    exact ((hH.2.1 s t hR ht).mpr hr).symm
  have e2p : ((2 : Int) ^ (pe V).toNat) = ((2 ^ (pe V).toNat : Nat) : Int) := by push_cast; rfl
  have h2p : 2 ^ (pe V).toNat ≤ 2 ^ 10 := Nat.pow_le_pow_right (by omega) (by omega)
  refine PRC.mk (R := RG ((0 ≤ h ∧ h < ha V) ∧ 0 ≤ g ∧ g < ha V) (CAR V h g)) (R' := RG ((0 ≤ h ∧ h < ha V) ∧ 0 ≤ g ∧ g < ha V) (CAR V h g)) hI (fun Q hq => ?_) (fun τ Q h1 h2 hq => ?_) (fun x y => RG.un Iff.rfl (fun x y _ a b => a.un hV b))
  · have hA := hI.1.2.1
    have no : ¬ ((0 ≤ h ∧ h < ha V) ∧ 0 ≤ g ∧ g < ha V) → Q (.inl (some (vI (-2)))) σ := fun z => hq σ _ FR.rf hI.2.2.2.1 hI.2.2.2.2.1 (Or.inr ⟨z, rfl⟩)
    refine b_X11_carried_0 ?_
    rw [hA.1.ha]
    refine ⟨fun z => no (fun q => z q.1), fun zh => ⟨fun zg => ?_, fun z => no (fun q => z q.2)⟩⟩
    refine c_readyI hV hA hI.2.2.2.1 hI.2.2.2.2.1 (fun τ f1 t1 t2 t3 t4 t5 t6 t7 => ?_)
    show WP mX11_carried 34 [vR 12 0, vI h, vI g, vR 10 0, vU, vU, vU, vU, vU, vU] [] τ Q
    have go : ∀ x, CAR V h g x → Q (.inl (some (vI x))) τ := fun x hx => hq τ x f1 t6 t7 (Or.inl ⟨⟨zh, zg⟩, hx⟩)
    obtain ⟨T, P, F, L, M⟩ := t1
    have hfr : frN V (τ 10 0 9) := ⟨F.1, F.2.1⟩
    have hn0 : 0 < τ 10 0 12 := by
      obtain ⟨H, hH, hb1, hb2⟩ := hN hV
      have := cnt_st hV hH
      have hp : 0 < H ^ cnt (fun p => ke V p = -1) (pe V).toNat := Nat.pow_pos (by omega)
      rw [L.2.2.2.2]; omega
    have hs0 := L.2.1 0 (by omega)
    refine b_X11_carried_34 (c_allWith hV T P hs0.1 F.1 zh (fun gs g1 g2 => ?_))
    show WP mX11_carried 49 [vR 12 0, vI h, vI g, vR 10 0, vU, vU, vU, vU, vU, vU] [vI gs] τ Q
    have hgs : SOF V (τ 10 0 9) h g gs := by
      refine ⟨⟨g1, fun p hp hk => ?_⟩, fun p hp hk => ?_⟩
      · rw [g2 p hp, if_neg (fun z => hk ((hfr.2 p).mp z).2)]; exact hs0.2 p hp hk
      · have := (hfr.2 p).mpr ⟨hp, hk⟩
        rw [g2 p hp, if_pos this, if_pos this]
    have gb := st_bd hV hgs.1
    have hn := t3.2.1
    have hhm : hm τ 0 gs = τ 27 0 gs.toNat := rfl
    have hcase := t3.1.1 gs hgs.1
    refine b_X11_carried_49 ⟨gb, fun z => go _ ⟨_, _, _, gs, t3.1, hfr, hgs, Or.inl ⟨Or.inl (by omega), rfl⟩⟩, fun z => ?_⟩
    have hk := hcase.resolve_left (fun q => by omega)
    obtain ⟨kn, hkn⟩ : ∃ n : Nat, τ 27 0 gs.toNat = n := ⟨(τ 27 0 gs.toNat).toNat, by omega⟩
    rw [hkn, Int.toNat_natCast, show ((kn : Int) + 1).toNat = kn + 1 by omega]
    have hm' := t3.2.2.2.1 (kn : Int) (by omega) (by omega)
    unfold RSm at hm'
    rw [Int.toNat_natCast] at hm'
    have hsz : mc V (hm τ 0) (hm τ 0 gs) 1024 = τ 30 0 (kn + 1) - τ 30 0 kn := by
      rw [hhm, hkn, t4 kn (by omega)]; rfl
    refine ⟨⟨by unfold in32; omega, by omega, by omega, by omega, by omega, by unfold in32; omega⟩, fun z1 => ?_, fun z1 => go _ ⟨_, _, _, gs, t3.1, hfr, hgs, Or.inl ⟨Or.inr (by rw [hsz]; exact z1), rfl⟩⟩⟩
    refine c_allWith hV T P g1 F.1 zg (fun os o1 o2 => ?_)
    show WP mX11_carried 100 [vR 12 0, vI h, vU, vR 10 0, vU, vI (kn : Int), vU, vU, vU, vU] [vI os] τ Q
    refine b_X11_carried_100 ?_
    have sofm : ∀ m, sub m (τ 10 0 9) → ∀ t, inC V t → (∀ p : Nat, (p : Int) < pe V → hab V t p = if tbit m p = true then h else hab V os p) → SOF V m h g t := fun m hm t t1 t2 => by
      refine ⟨⟨t1, fun p hp hk => ?_⟩, fun p hp hk => ?_⟩
      · rw [t2 p hp, if_neg (fun z => hk ((hfr.2 p).mp (hm.2 p z)).2), o2 p hp, if_neg (fun z => hk ((hfr.2 p).mp z).2)]; exact hgs.1.2 p hp hk
      · rw [t2 p hp, o2 p hp, if_pos ((hfr.2 p).mpr ⟨hp, hk⟩)]
    have okf : OKS V (hm τ 0) (hm τ 0 gs) h g (τ 10 0 9) := fun s hs => by
      rw [hs.un hV hgs]
      exact own _ _ gs t3.1 hgs.1 (by omega)
    have fin : ∀ x, CMIN V (hm τ 0) (hm τ 0 gs) h g (τ 10 0 9) x → Q (.inl (some (vI x))) τ := fun x hx => go _ ⟨_, _, _, gs, t3.1, hfr, hgs, Or.inr ⟨by omega, by rw [hsz]; exact z1, hx⟩⟩
    have key : ∀ r y : Nat, r + y = 2 ^ (pe V).toNat → ∀ x : Int, sub x (τ 10 0 9) → OKS V (hm τ 0) (hm τ 0 gs) h g x → (x < y ∨ x = τ 10 0 9) → (∀ m, sub m (τ 10 0 9) → m < y → OKS V (hm τ 0) (hm τ 0 gs) h g m → bcnt x ≤ bcnt m ∧ (bcnt x = bcnt m → x ≤ m)) → WP mX11_carried 111 [vR 12 0, vI h, vU, vR 10 0, vU, vI (kn : Int), vI os, vI x, vI (y : Int), vU] [] τ Q := by
      intro r
      induction r with
      | zero =>
        intro y hy x x1 x2 x3 x4
        refine b_X11_carried_111 ?_
        rw [T.pe, shl1 (by omega) (by omega), e2p]
        refine ⟨fun _ => fin x ⟨x1, x2, fun m m1 m2 => x4 m m1 ?_ m2⟩, fun z => by omega⟩
        have := sub_lt hV hfr m1
        rw [e2p] at this
        omega
      | succ r ih =>
        intro y hy x x1 x2 x3 x4
        have nx : (sub (y : Int) (τ 10 0 9) → OKS V (hm τ 0) (hm τ 0 gs) h g y → bcnt x ≤ bcnt y) → in32 ((y : Int) + 1) ∧ WP mX11_carried 111 [vR 12 0, vI h, vU, vR 10 0, vU, vI (kn : Int), vI os, vI x, vI ((y : Int) + 1), vU] [] τ Q := fun hle => by
          refine ⟨by unfold in32; omega, ih (y + 1) (by omega) x x1 x2 (by omega) (fun m m1 m2 m3 => ?_)⟩
          by_cases e : m = y
          · rw [e] at m1 m3 ⊢
            refine ⟨hle m1 m3, fun he => ?_⟩
            rcases x3 with z | z
            · omega
            · rw [z] at he ⊢
              have := sub_eq m1 F.1 he.symm
              omega
          · exact x4 m m1 (by push_cast at m2; omega) m3
        refine b_X11_carried_111 ?_
        rw [T.pe, shl1 (by omega) (by omega), e2p]
        refine ⟨fun z => by omega, fun _ => ⟨by omega, x1.1, fun z => b_X11_carried_140 ⟨fun _ => nx (fun _ _ => z), fun z => absurd rfl z⟩, fun z => b_X11_carried_140 ⟨fun z => by omega, fun _ => ?_⟩⟩⟩
        rw [Ne, sub_iff (by omega) (by omega) F.1.1 F.1.2]
        refine ⟨fun q => nx (fun q2 => absurd q2 q), fun hsub => c_allWith hV T P o1 hsub.1 zh (fun t t1 t2 => ?_)⟩
        show WP mX11_carried 178 [vR 12 0, vI h, vU, vR 10 0, vU, vI (kn : Int), vI os, vI x, vI (y : Int), vU] [vI t, vR 28 0] τ Q
        have hst := sofm y hsub t t1 t2
        have hbas : τ 28 0 t.toNat = (kn : Int) ↔ BAS V (hm τ 0) (hm τ 0 gs) t := by rw [hhm, hkn]; exact t3.2.2.1 t hst.1 kn (by omega)
        refine b_X11_carried_178 ⟨st_bd hV hst.1, fun q => nx (fun _ q2 => absurd (hbas.mpr (q2 t hst)) q), fun q => ⟨by unfold in32; omega, ih (y + 1) (by omega) y hsub (fun s hs => by rw [hs.un hV hst]; exact hbas.mp q) (by omega) (fun m m1 m2 m3 => ?_)⟩⟩
        by_cases e : m = y
        · rw [e]; exact ⟨by omega, fun _ => by omega⟩
        · have := x4 m m1 (by push_cast at m2; omega) m3
          exact ⟨by omega, fun _ => by omega⟩
    exact key (2 ^ (pe V).toNat) 0 (by omega) _ (sub_rf F.1) okf (Or.inr rfl) (fun m m1 m2 => by have := m1.1.1; omega)
  · have hT0 := h1.2.2.1
    have no : ¬ ((0 ≤ h ∧ h < ha V) ∧ 0 ≤ g ∧ g < ha V) → Q (.inl (some (vI (-2)))) τ := fun z => hq τ _ FR.rf h2 (Or.inr ⟨z, rfl⟩)
    refine b_X13_carried_0 ?_
    rw [hT0.2.1]
    refine ⟨by unfold in64; omega, fun z => no (by omega), fun zh => ⟨by unfold in64; omega, fun zg => ?_, fun z => no (by omega)⟩⟩
    refine d_makeI h1 h2 (fun υ f1 u1 u2 u3 u4 => ?_)
    show WP mX13_carried 23 [vR 14 0, vI h, vI g, vU, vU, vU, vU] [] υ Q
    have hT := u1.2.2.1
    have zh' : 0 ≤ h ∧ h < ha V := ⟨zh.1, by omega⟩
    have zg' : 0 ≤ g ∧ g < ha V := ⟨zg.1, by omega⟩
    have go : ∀ x, CAR V h g x → Q (.inl (some (vI x))) υ := fun x hx => hq υ x f1 u4 (Or.inl ⟨⟨zh', zg'⟩, hx⟩)
    refine b_X13_carried_23 (d_freeSet hV hT (fun fr hfr => ?_))
    show WP mX13_carried 27 [vR 14 0, vI h, vI g, vU, vU, vU, vU] [vI fr] υ Q
    refine b_X13_carried_27 (d_stateOf hV hT hfr.1 zh' zg' (fun gs hgs => ?_))
    show WP mX13_carried 39 [vR 14 0, vI h, vI g, vI fr, vU, vU, vU] [vI gs, vR 83 0] υ Q
    have gb := st_bd hV hgs.1
    have hri : ri υ gs = υ 83 0 gs.toNat := rfl
    have hcase := u3.1.1 gs hgs.1
    have hn := u3.2.1
    refine b_X13_carried_39 ⟨gb, fun z => go _ ⟨_, _, _, gs, u3.1, hfr, hgs, Or.inl ⟨Or.inl z, rfl⟩⟩, fun z => ?_⟩
    have hk := hcase.resolve_left (fun q => z (by omega))
    obtain ⟨kn, hkn⟩ : ∃ n : Nat, υ 83 0 gs.toNat = n := ⟨(υ 83 0 gs.toNat).toNat, by omega⟩
    rw [hkn, Int.toNat_natCast]
    have hsz : mc V (ri υ) (ri υ gs) 1024 = υ 86 0 kn := by
      rw [hri, hkn, u3.2.2.2.2.1 kn (by omega)]; rfl
    refine ⟨by omega, fun z1 => ?_, fun z1 => go _ ⟨_, _, _, gs, u3.1, hfr, hgs, Or.inl ⟨Or.inr (by rw [hsz]; exact z1), rfl⟩⟩⟩
    have okf : OKS V (ri υ) (ri υ gs) h g fr := fun s hs => by
      rw [hs.un hV hgs]
      exact own _ _ gs u3.1 hgs.1 (by omega)
    have fin : ∀ x, CMIN V (ri υ) (ri υ gs) h g fr x → Q (.inl (some (vI x))) υ := fun x hx => go _ ⟨_, _, _, gs, u3.1, hfr, hgs, Or.inr ⟨by omega, by rw [hsz]; exact z1, hx⟩⟩
    have hbf := bcnt_bd fr
    have outer : ∀ r y : Nat, ((r + y : Nat) : Int) = bcnt fr + 1 → (∀ m, sub m fr → OKS V (ri υ) (ri υ gs) h g m → (y : Int) ≤ bcnt m) → WP mX13_carried 64 [vR 14 0, vI h, vI g, vI fr, vI (kn : Int), vI (y : Int), vU] [] υ Q := by
      intro r
      induction r with
      | zero =>
        intro y hy hm
        have := hm fr (sub_rf hfr.1) okf
        omega
      | succ r ih =>
        intro y hy hm
        refine b_X13_carried_64 (d_bits hfr.1.1 hfr.1.2 ?_)
        show WP mX13_carried 70 [vR 14 0, vI h, vI g, vI fr, vI (kn : Int), vI (y : Int), vU] [vI (bcnt fr), vI (y : Int)] υ Q
        refine b_X13_carried_70 ⟨fun z => by omega, fun _ => ?_⟩
        have inner : ∀ r' x : Nat, r' + x = 2 ^ (pe V).toNat → (∀ m, sub m fr → OKS V (ri υ) (ri υ gs) h g m → bcnt m = (y : Int) → (x : Int) ≤ m) → WP mX13_carried 76 [vR 14 0, vI h, vI g, vI fr, vI (kn : Int), vI (y : Int), vI (x : Int)] [] υ Q := by
          intro r'
          induction r' with
          | zero =>
            intro x hx hm2
            refine b_X13_carried_76 ?_
            rw [hT.1, shl1 (by omega) (by omega), e2p]
            refine ⟨fun _ => ⟨by unfold in32; omega, ih (y + 1) (by omega) (fun m m1 m2 => ?_)⟩, fun z => by omega⟩
            have a1 := hm m m1 m2
            have a2 := sub_lt hV hfr m1
            rw [e2p] at a2
            by_cases e : bcnt m = y
            · have := hm2 m m1 m2 e
              omega
            · push_cast; omega
          | succ r' ihr =>
            intro x hx hm2
            have nx : (sub (x : Int) fr → bcnt (x : Int) = y → ¬ OKS V (ri υ) (ri υ gs) h g x) → in32 ((x : Int) + 1) ∧ WP mX13_carried 76 [vR 14 0, vI h, vI g, vI fr, vI (kn : Int), vI (y : Int), vI ((x : Int) + 1)] [] υ Q := fun hno => by
              refine ⟨by unfold in32; omega, ihr (x + 1) (by omega) (fun m m1 m2 m3 => ?_)⟩
              have := hm2 m m1 m2 m3
              by_cases e : m = x
              · rw [e] at m1 m2 m3
                exact absurd m2 (hno m1 m3)
              · push_cast; omega
            refine b_X13_carried_76 ?_
            rw [hT.1, shl1 (by omega) (by omega), e2p, Ne, sub_iff (by omega) (by omega) hfr.1.1 hfr.1.2]
            refine ⟨fun z => by omega, fun _ => ⟨fun q => nx (fun q2 => absurd q2 q), fun hsub => d_bits hsub.1.1 hsub.1.2 ?_⟩⟩
            show WP mX13_carried 101 [vR 14 0, vI h, vI g, vI fr, vI (kn : Int), vI (y : Int), vI (x : Int)] [vI (bcnt (x : Int))] υ Q
            refine b_X13_carried_101 ⟨fun q => nx (fun _ q2 => absurd q2 q), fun hbc => d_stateOf hV hT hsub.1 zh' zg' (fun t ht => ?_)⟩
            show WP mX13_carried 118 [vR 14 0, vI h, vI g, vI fr, vI (kn : Int), vI (y : Int), vI (x : Int)] [vI t, vR 84 0] υ Q
            have hbas : υ 84 0 t.toNat = (kn : Int) ↔ BAS V (ri υ) (ri υ gs) t := by rw [hri, hkn]; exact u3.2.2.1 t ht.1 kn (by omega)
            refine b_X13_carried_118 ⟨st_bd hV ht.1, fun q => nx (fun _ _ q2 => q (hbas.mpr (q2 t ht))), fun q => fin _ ⟨hsub, fun s hs => by rw [hs.un hV ht]; exact hbas.mp q, fun m m1 m2 => ⟨by have := hm m m1 m2; omega, fun he => hm2 m m1 m2 (by omega)⟩⟩⟩
        exact inner (2 ^ (pe V).toNat) 0 (by omega) (fun m m1 _ _ => m1.1.1)
    obtain ⟨b, hb⟩ : ∃ n : Nat, bcnt fr + 1 = n := ⟨(bcnt fr + 1).toNat, by omega⟩
    exact outer b 0 (by omega) (fun m _ _ => (bcnt_bd m).1)
end Carr
