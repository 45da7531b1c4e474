/-! ===== rests, restOf, radius, coradius, shortly, between, winners ===== -/
def RR (V : Vy) (k : Int) : Prop := ∃ home n, HOME V home n ∧ 0 ≤ k ∧ k < n
section Calls2
variable {σ τ : St} {Q : Res → St → Prop} {V : Vy} {home : Int → Int} {n k : Int}
theorem RR.iff (hV : VOK V) (h : HOME V home n) : RR V k ↔ 0 ≤ k ∧ k < n := by
  refine ⟨fun ⟨f, m, h1, h2, h3⟩ => ⟨h2, ?_⟩, fun z => ⟨home, n, h, z⟩⟩
  rw [(h.uniq hV h1).2]; exact h3
theorem bas_cg {f g : Int → Int} {s : Int} (hfg : ∀ s, isSt V s → f s = g s) : BAS V f k s ↔ BAS V g k s :=
  ⟨fun h t ht hr => by rw [← hfg t ht.1]; exact h t ht hr, fun h t ht hr => by rw [hfg t ht.1]; exact h t ht hr⟩
theorem WIN.un {b b' : Int} (hV : VOK V) (h : WIN V b) (h' : WIN V b') : b = b' := by
  obtain ⟨f, N, w, L, a1, a2, a3, a4⟩ := h
  obtain ⟨g, N', w', L', b1, b2', b3, b4⟩ := h'
  obtain ⟨e1, e2⟩ := a1.uniq hV b1
  have eN : N = N' := by omega
  subst eN
  have ew : ∀ a b, a < N → b < N → a ≠ b → w a b = w' a b := fun a b ha hb hne => by
    obtain ⟨s, s1, s2⟩ := a1.2.2.2.1 (b : Int) (by omega) (by omega)
    obtain ⟨t, t1, t2⟩ := a1.2.2.2.1 (a : Int) (by omega) (by omega)
    obtain ⟨F, hD⟩ := dist_ex hV (Tg := fun x => f x = (b : Int)) s1.1 s2
    rw [a3 a b ha hb hne F hD t t1.1 t2, b3 a b ha hb hne F (hD.cg (fun s hs => by rw [e1 s hs])) t t1.1 (by rw [← e1 t t1.1]; exact t2)]
  have eS : (fun k x => MTS N k (fun _ _ => True) w x) = (fun k x => MTS N k (fun _ _ => True) w' x) := by
    funext k x
    apply propext
    exact ⟨fun z => z.cg ew, fun z => z.cg (fun a b ha hb hne => (ew a b ha hb hne).symm)⟩
  rw [← eS] at b4
  by_cases hN : 0 < N
  · exact WB.un (fun j x y h1 h2 => h1.un h2) hN a4 b4
  · refine bits_ext a4.1.1 b4.1.1 (fun r => ?_)
    rw [a4.2.2.1 r, b4.2.2.1 r]
    exact ⟨fun z => by omega, fun z => by omega⟩
theorem ILD.am (h : ILD V σ) (h5 : σ 2 0 5 ≠ 0) (f : FR shP σ τ) (hA : AIMOK τ V) : ILD V τ := by
  obtain ⟨h1, h2, h3, h4⟩ := h
  have e5 : τ 2 0 5 = σ 2 0 5 := f 2 0 5 (fun z => by unfold shP amP at z; omega)
  have e6 : τ 2 0 6 = σ 2 0 6 := f 2 0 6 (fun z => by unfold shP amP at z; omega)
  refine ⟨h1.fr f (fun c j hc z => by unfold shP amP at z; omega), fun z => by omega, hA, fun z => ?_⟩
  rw [e6] at z
  exact ⟨by omega, (h4 z).2.fr f (fun c j hc z => by unfold shP amP at z; omega)⟩
theorem shP_k {c i j : Nat} (z : shP c i j) : kC c i j := by unfold shP amP at z; unfold kC; omega
theorem pr_rests (hI : INV V σ) : PRC mX11_rests mX13_rests [vR 12 0] [vR 14 0] σ := by
  have hV := hI.1.1
  refine PRC.mk (R := fun n => ∃ home, HOME V home n) (R' := fun n => ∃ home, HOME V home n) hI (fun Q h => ?_) (fun τ Q h1 h2 h => ?_) (fun x y ⟨f, hf⟩ ⟨g, hg⟩ => (hf.uniq hV hg).2)
  · refine b_X11_rests_0 (c_readyI hV hI.1.2.1 hI.2.2.2.1 hI.2.2.2.2.1 (fun τ f1 t1 t2 t3 t4 t5 t6 t7 => ?_))
    exact b_X11_rests_7 (h τ _ f1 t6 t7 ⟨_, t3.1⟩)
  · refine b_X13_rests_0 (d_makeI h1 h2 (fun υ f1 u1 u2 u3 u4 => ?_))
    exact b_X13_rests_4 (h υ _ f1 u4 ⟨_, u3.1⟩)
theorem pr_restOf {s : Int} (hI : INV V σ) : PRC mX11_restOf mX13_restOf [vR 12 0, vI s] [vR 14 0, vI s] σ := by
  have hV := hI.1.1
  refine PRC.mk (R := RG (isSt V s) (fun x => ∃ home n, HOME V home n ∧ x = home s)) (R' := RG (isSt V s) (fun x => ∃ home n, HOME V home n ∧ x = home s)) hI (fun Q h => ?_) (fun τ Q h1 h2 h => ?_) (fun x y => RG.un Iff.rfl (fun x y hs ⟨f, n, hf, e⟩ ⟨g, m, hg, e'⟩ => by rw [e, e']; exact (hf.uniq hV hg).1 s hs))
  · have hA := hI.1.2.1
    refine b_X11_restOf_0 (c_isState hV hA.1 hA.2.1 ?_)
    show WP mX11_restOf 11 [vR 12 0, vI s] [vI (b2 (isSt V s))] σ Q
    refine b_X11_restOf_11 ⟨fun z => ?_, fun z => h σ _ FR.rf hI.2.2.2.1 hI.2.2.2.2.1 (Or.inr ⟨b2_eq z, rfl⟩)⟩
    refine c_readyI hV hA hI.2.2.2.1 hI.2.2.2.2.1 (fun τ f1 t1 t2 t3 t4 t5 t6 t7 => ?_)
    exact b_X11_restOf_24 ⟨st_bd hV (b2_ne z), h τ _ f1 t6 t7 (Or.inl ⟨b2_ne z, _, _, t3.1, rfl⟩)⟩
  · refine b_X13_restOf_0 (d_makeI h1 h2 (fun υ f1 u1 u2 u3 u4 => ?_))
    show WP mX13_restOf 4 [vR 14 0, vI s] [] υ Q
    refine b_X13_restOf_4 (d_isState hV u1.2.2.1 ?_)
    show WP mX13_restOf 9 [vR 14 0, vI s] [vI (b2 (isSt V s))] υ Q
    exact b_X13_restOf_9 ⟨fun z => h υ _ f1 u4 (Or.inr ⟨b2_eq z, rfl⟩), fun z => ⟨st_bd hV (b2_ne z), h υ _ f1 u4 (Or.inl ⟨b2_ne z, _, _, u3.1, rfl⟩)⟩⟩
theorem pr_radius {k : Int} (hI : INV V σ) : PRC mX11_radius mX13_radius [vR 12 0, vI k] [vR 14 0, vI k] σ := by
  have hV := hI.1.1
  refine PRC.mk (R := RG (RR V k) (fun r => ∃ home n, HOME V home n ∧ RAD V (fun u => isSt V u ∧ home u = k) (BAS V home k) r)) (R' := RG (RR V k) (fun r => ∃ home n, HOME V home n ∧ RAD V (fun u => isSt V u ∧ home u = k) (BAS V home k) r)) hI (fun Q h => ?_) (fun τ Q h1 h2 h => ?_) (fun x y => RG.un Iff.rfl (fun x y _ ⟨f, n, hf, e⟩ ⟨g, m, hg, e'⟩ => ?_))
  · refine b_X11_radius_0 (c_readyI hV hI.1.2.1 hI.2.2.2.1 hI.2.2.2.2.1 (fun τ f1 t1 t2 t3 t4 t5 t6 t7 => ?_))
    show WP mX11_radius 7 [vR 12 0, vI k] [] τ Q
    refine b_X11_radius_7 ⟨fun z => h τ _ f1 t6 t7 (Or.inr ⟨fun w => z ((RR.iff hV t3.1).mp w), rfl⟩), fun z => ?_⟩
    refine c_leave hV t1 t2 t3 z.1 z.2 (fun υ r u1 hr => ?_)
    have u1' : FR shP τ υ := u1.wk (fun c i j z => Or.inl ⟨z.1, z.2⟩)
    exact b_X11_radius_33 (h υ r (f1.tr (u1'.wk (fun c i j => shP_k))) (t6.am t5 u1' (t6.2.2.1.fr u1 ⟨fun z => by unfold sP at z; omega, fun k z => by unfold sP at z; omega, fun k z => by unfold sP at z; omega⟩)) (t7.fr u1' (by unfold shP amP; omega)) (Or.inl ⟨(RR.iff hV t3.1).mpr z, _, _, t3.1, hr⟩))
  · refine b_X13_radius_0 (d_isRestI h1 h2 (fun υ f1 u1 u2 u3 u4 => ?_))
    show WP mX13_radius 5 [vR 14 0, vI k] [vI (b2 (0 ≤ k ∧ k < υ 14 0 51))] υ Q
    refine b_X13_radius_5 ⟨fun z => h υ _ f1 u4 (Or.inr ⟨fun w => b2_eq z ((RR.iff hV u3.1).mp w), rfl⟩), fun z => ?_⟩
    have z' := b2_ne z
    refine d_radiusOf hV u1.2.2.1 u2 u3 z'.1 z'.2 (fun ω r o1 hr => ?_)
    exact b_X13_radius_13 (h ω r (f1.tr (o1.wk (fun c i j z => by unfold mkP at z; unfold kM; omega))) (u4.fr o1 (by unfold mkP; omega)) (Or.inl ⟨(RR.iff hV u3.1).mpr z', _, _, u3.1, hr⟩))
  · have e0 := (hf.uniq hV hg).1
    exact (e.cg (T' := fun u => isSt V u ∧ g u = k) (B' := BAS V g k) (fun s => ⟨fun z => ⟨z.1, by rw [← e0 s z.1]; exact z.2⟩, fun z => ⟨z.1, by rw [e0 s z.1]; exact z.2⟩⟩) (fun s _ => bas_cg e0)).un e'
theorem pr_coradius {k : Int} (hI : INV V σ) : PRC mX11_coradius mX13_coradius [vR 12 0, vI k] [vR 14 0, vI k] σ := by
  have hV := hI.1.1
  refine PRC.mk (R := RG (RR V k) (fun m => ∃ home n F, HOME V home n ∧ DIST V (fun s => home s = k) F ∧ MXC V F m)) (R' := RG (RR V k) (fun m => ∃ home n F, HOME V home n ∧ DIST V (fun s => home s = k) F ∧ MXC V F m)) hI (fun Q h => ?_) (fun τ Q h1 h2 h => ?_) (fun x y => RG.un Iff.rfl (fun x y _ ⟨f, n, F, hf, hF, e⟩ ⟨g, m, G, hg, hG, e'⟩ => ?_))
  · refine b_X11_coradius_0 (c_readyI hV hI.1.2.1 hI.2.2.2.1 hI.2.2.2.2.1 (fun τ f1 t1 t2 t3 t4 t5 t6 t7 => ?_))
    show WP mX11_coradius 7 [vR 12 0, vI k] [] τ Q
    refine b_X11_coradius_7 ⟨fun z => h τ _ f1 t6 t7 (Or.inr ⟨fun w => z ((RR.iff hV t3.1).mp w), rfl⟩), fun z => ?_⟩
    obtain ⟨s0, s1, s2⟩ := t3.1.2.2.2.1 k z.1 z.2
    obtain ⟨F, hD⟩ := dist_ex hV (Tg := fun s => hm τ 0 s = k) s1.1 s2
    refine c_farthest (F := F) hV t1 t2 t3 z.1 z.2 t6.2.2.1 hD (fun υ m u1 u2 u3 => ?_)
    have u1' : FR shP τ υ := u1.wk (fun c i j z => Or.inr z)
    exact b_X11_coradius_26 (h υ m (f1.tr (u1'.wk (fun c i j => shP_k))) (t6.am t5 u1' u2) (t7.fr u1' (by unfold shP amP; omega)) (Or.inl ⟨(RR.iff hV t3.1).mpr z, _, _, F, t3.1, hD, u3⟩))
  · refine b_X13_coradius_0 (d_isRestI h1 h2 (fun υ f1 u1 u2 u3 u4 => ?_))
    show WP mX13_coradius 5 [vR 14 0, vI k] [vI (b2 (0 ≤ k ∧ k < υ 14 0 51))] υ Q
    refine b_X13_coradius_5 ⟨fun z => h υ _ f1 u4 (Or.inr ⟨fun w => b2_eq z ((RR.iff hV u3.1).mp w), rfl⟩), fun z => ?_⟩
    have z' := b2_ne z
    refine d_coradiusOf hV u1.2.2.1 u2 u3 z'.1 z'.2 (fun ω m o1 o2 o3 => ?_)
    exact b_X13_coradius_13 (h ω m (f1.tr (o1.wk (fun c i j z => by unfold mkP at z; unfold kM; omega))) (u4.fr o1 (by unfold mkP; omega)) (Or.inl ⟨(RR.iff hV u3.1).mpr z', _, _, _, u3.1, o2, o3⟩))
  · have e0 := (hf.uniq hV hg).1
    exact e.un ((hF.cg (fun s hs => by rw [e0 s hs])).uniq hV hG) e'
theorem pr_shortly (hI : INV V σ) : PRC mX11_shortly mX13_shortly [vR 12 0] [vR 14 0, vU, vU] σ := by
  have hV := hI.1.1
  refine PRC.mk (R := SHRT V) (R' := SHRT V) hI (fun Q h => ?_) (fun τ Q h1 h2 h => ?_) (fun x y ⟨f, n, hf, e⟩ ⟨g, m, hg, e'⟩ => ?_)
  · refine b_X11_shortly_0 (c_readyI hV hI.1.2.1 hI.2.2.2.1 hI.2.2.2.2.1 (fun τ f1 t1 t2 t3 t4 t5 t6 t7 => ?_))
    show WP mX11_shortly 7 [vR 12 0] [] τ Q
    refine b_X11_shortly_7 ⟨fun z => h τ _ f1 t6 t7 (t7.2.1.resolve_left z), fun z => ?_⟩
    refine c_findShort hV t1 t2 t3 t6.2.2.1 (fun υ r u1 u2 u3 => ?_)
    show WP mX11_shortly 21 [vR 12 0] [vI r, vR 12 0] υ Q
    have F2 : FR kC σ υ := f1.tr (u1.wk (fun c i j => shP_k))
    have g : FR (fun c i j => c = 12 ∧ i = 0 ∧ j = 17) υ (up υ 12 0 17 r) := FR.rf.u ⟨rfl, rfl, rfl⟩
    have c7 := t7.fr u1 (by unfold shP amP; omega)
    have hS : SHRT V r := ⟨_, _, t3.1, u3⟩
    refine b_X11_shortly_21 (h _ r (F2.u (by unfold kC; omega)) ((t6.am t5 u1 u2).fr g (by omega)) ?_ hS)
    refine ⟨?_, Or.inr (by rw [up_s]; exact hS), fun q hq => ?_⟩
    · rw [up_j (by omega)]; exact c7.1
    · rw [up_c (by omega), up_c (by omega)]; exact c7.2.2 q hq
  · refine b_X13_shortly_0 (d_makeI h1 h2 (fun υ f1 u1 u2 u3 u4 => ?_))
    show WP mX13_shortly 4 [vR 14 0, vU, vU] [] υ Q
    exact d_short hV u1.2.2.1 u2 u3 (fun ω r o1 o2 => h ω r (f1.tr (o1.wk (fun c i j z => by unfold mkP at z; unfold kM; omega))) (u4.fr o1 (by unfold mkP; omega)) ⟨_, _, u3.1, o2⟩)
  · obtain ⟨e0, e1⟩ := hf.uniq hV hg
    subst e1
    exact (e.cg hV e0).un e'
theorem pr_between {a b : Int} (hI : INV V σ) : PRC mX11_between mX13_between [vR 12 0, vI a, vI b] [vR 14 0, vI a, vI b] σ := by
  have hV := hI.1.1
  refine PRC.mk (R := RG (RR V a ∧ RR V b) (fun x => ∃ home n F s, HOME V home n ∧ DIST V (fun s => home s = b) F ∧ isSt V s ∧ home s = a ∧ x = F s / 4096)) (R' := RG (RR V a ∧ RR V b) (fun x => ∃ home n F s, HOME V home n ∧ DIST V (fun s => home s = b) F ∧ isSt V s ∧ home s = a ∧ x = F s / 4096)) hI (fun Q h => ?_) (fun τ Q h1 h2 h => ?_) (fun x y => RG.un Iff.rfl (fun x y hP ⟨f, n, F, s, hf, hF, hs, es, e⟩ ⟨g, m, G, t, hg, hG, ht, et, e'⟩ => ?_))
  · refine b_X11_between_0 (c_readyI hV hI.1.2.1 hI.2.2.2.1 hI.2.2.2.2.1 (fun τ f1 t1 t2 t3 t4 t5 t6 t7 => ?_))
    show WP mX11_between 7 [vR 12 0, vI a, vI b] [] τ Q
    refine b_X11_between_7 ⟨fun z => h τ _ f1 t6 t7 (Or.inr ⟨fun w => z ((RR.iff hV t3.1).mp w.1), rfl⟩), fun z => ⟨fun z2 => ?_, fun z2 => h τ _ f1 t6 t7 (Or.inr ⟨fun w => z2 ((RR.iff hV t3.1).mp w.2), rfl⟩)⟩⟩
    obtain ⟨s0, s1, s2⟩ := t3.1.2.2.2.1 b z2.1 z2.2
    obtain ⟨F, hD⟩ := dist_ex hV (Tg := fun s => hm τ 0 s = b) s1.1 s2
    refine c_aimAt (F := F) hV t1 t2 t3 z2.1 z2.2 t6.2.2.1 hD (fun υ u1 u2 u3 u4 => ?_)
    show WP mX11_between 43 [vR 12 0, vI a, vU] [] υ Q
    have u1' : FR shP τ υ := u1.wk (fun c i j z => Or.inr z)
    have hm' := t3.2.2.2.1 a z.1 z.2
    unfold RSm at hm'
    have hn := t3.2.1
    have ls := hm'.2.2.2.1 (τ 30 0 a.toNat).toNat (by omega) (by omega)
    have lb := st_bd hV ls.1
    have e30 : υ 30 0 a.toNat = τ 30 0 a.toNat := u1 30 0 _ (fun z => by unfold amP at z; omega)
    have e29 : ∀ x, υ 29 0 x = τ 29 0 x := fun x => u1 29 0 _ (fun z => by unfold amP at z; omega)
    have eK : υ 37 1 (τ 29 0 (τ 30 0 a.toNat).toNat).toNat = F (τ 29 0 (τ 30 0 a.toNat).toNat) / 4096 := u3 _ ls.1
    refine b_X11_between_43 ?_
    rw [e30, e29, eK]
    exact ⟨⟨z.1, by omega, hm'.1, by omega⟩, lb, h υ _ (f1.tr (u1'.wk (fun c i j => shP_k))) (t6.am t5 u1' u4) (t7.fr u1' (by unfold shP amP; omega)) (Or.inl ⟨⟨(RR.iff hV t3.1).mpr z, (RR.iff hV t3.1).mpr z2⟩, _, _, F, _, t3.1, hD, ls.1, ls.2, rfl⟩)⟩
  · refine b_X13_between_0 (d_isRestI h1 h2 (fun υ f1 u1 u2 u3 u4 => ?_))
    show WP mX13_between 5 [vR 14 0, vI a, vI b] [vI (b2 (0 ≤ a ∧ a < υ 14 0 51))] υ Q
    refine b_X13_between_5 ⟨fun z => h υ _ f1 u4 (Or.inr ⟨fun w => b2_eq z ((RR.iff hV u3.1).mp w.1), rfl⟩), fun z => ?_⟩
    have z' := b2_ne z
    refine d_isRestI u1 u4 (fun ω o1 o2 o3 o4 o5 => ?_)
    show WP mX13_between 13 [vR 14 0, vI a, vI b] [vI (b2 (0 ≤ b ∧ b < ω 14 0 51))] ω Q
    have en := (u3.1.uniq hV o4.1).2
    refine b_X13_between_13 ⟨fun w => ?_, fun w => h ω _ (f1.tr o1) o5 (Or.inr ⟨fun q => b2_eq w ((RR.iff hV o4.1).mp q.2), rfl⟩)⟩
    have w' := b2_ne w
    obtain ⟨t0, t1, t2⟩ := o4.1.2.2.2.1 b w'.1 w'.2
    refine d_markRest hV o2.2.2.1 o3 t1.1 t2 (fun ρ p1 p2 => ?_)
    show WP mX13_between 24 [vR 14 0, vI a, vU] [] ρ Q
    obtain ⟨s0, s1, s2⟩ := o4.1.2.2.2.1 a z'.1 (by omega)
    have p4 : MRS ρ V := o4.fr p1 (fun c k hc z => by unfold mkP at z; omega)
    have p5 : ri ρ s0 = a := by
      rw [← s2]; exact p1 83 0 _ (fun z => by unfold mkP at z; omega)
    refine b_X13_between_24 (d_leastOf (F := far ρ) hV (o2.2.2.1.fr p1 (fun c j hc z => by unfold mkP at z; omega)) p4 z'.1 s1.1 p5 (fun x => rfl) p2 (fun x hx => p2.le hV t1.1 t2 x hx) ?_)
    exact b_X13_between_29 (h ρ _ (f1.tr (o1.tr (p1.wk (fun c i j z => by unfold mkP at z; unfold kM; omega)))) (o5.fr p1 (by unfold mkP; omega)) (Or.inl ⟨⟨(RR.iff hV u3.1).mpr z', (RR.iff hV o4.1).mpr w'⟩, _, _, _, _, o4.1, p2, s1.1, s2, rfl⟩))
  · have e0 := (hf.uniq hV hg).1
    have e1 := (hF.cg (Tg' := fun s => g s = b) (fun s hs => by rw [e0 s hs])).uniq hV hG
    rw [e, e', ← e1 t ht]
    exact hf.far hV hF ((RR.iff hV hf).mp hP.1).1 hs ht es (by rw [e0 t ht]; exact et)
def WINR (V : Vy) (x : Int) : Prop := (∃ home n, HOME V home n ∧ 12 < n ∧ x = -3) ∨ WIN V x
theorem WINR.un {x y : Int} (hV : VOK V) (h : WINR V x) (h' : WINR V y) : x = y := by
  rcases h with ⟨f, n, a1, a2, a3⟩ | h
  · rcases h' with ⟨g, m, b1, b2', b3⟩ | ⟨g, N, w, L, b1, b2', _⟩
    · omega
    · have := (a1.uniq hV b1).2
      omega
  · rcases h' with ⟨g, m, b1, b2', b3⟩ | h'
    · obtain ⟨f, N, w, L, a1, a2, _⟩ := h
      have := (a1.uniq hV b1).2
      omega
    · exact h.un hV h'
theorem BT.dw {N : Nat} (hN : σ 5 0 0 = (N : Nat)) (h : BT σ 0 V) : DW V (hm σ 0) N (btw σ 0) := fun a b ha hb _ F hF s hs hsa => h a b (by omega) (by omega) F hF s hs hsa
theorem pr_winners (hI : INV V σ) : PRC mX11_winners mX13_winners [vR 12 0] [vR 14 0] σ := by
  have hV := hI.1.1
  refine PRC.mk (R := WINR V) (R' := WINR V) hI (fun Q h => ?_) (fun τ Q h1 h2 h => ?_) (fun x y h1 h2 => h1.un hV h2)
  · refine b_X11_winners_0 (c_readyI hV hI.1.2.1 hI.2.2.2.1 hI.2.2.2.2.1 (fun τ f1 t1 t2 t3 t4 t5 t6 t7 => ?_))
    show WP mX11_winners 7 [vR 12 0] [] τ Q
    have hn0 := t3.1.2.2.2.2
    refine b_X11_winners_7 ⟨fun z => ⟨fun w => h τ _ f1 t6 t7 (Or.inr (t7.1.resolve_left w)), fun w => ?_⟩, fun z => h τ _ f1 t6 t7 (Or.inl ⟨_, _, t3.1, z, rfl⟩)⟩
    obtain ⟨N, hN⟩ : ∃ N : Nat, τ 5 0 0 = N := ⟨(τ 5 0 0).toNat, by omega⟩
    refine c_winnersOf (N := N) hV t1 t2 t3 hN (by omega) (fun z => (t6.2.2.2 z).2) (fun υ L b u1 u2 u3 u4 => ?_)
    show WP mX11_winners 43 [vR 12 0] [vI b, vR 12 0] υ Q
    have F2 : FR kC σ υ := f1.tr (u1.wk (fun c i j z => by unfold wnP meP sP lsP at z; unfold kC; omega))
    have g : FR (fun c i j => c = 12 ∧ i = 0 ∧ j = 16) υ (up υ 12 0 16 b) := FR.rf.u ⟨rfl, rfl, rfl⟩
    have c7 := t7.fr u1 (by unfold wnP meP sP lsP; omega)
    have eh : hm υ 0 = hm τ 0 := by funext x; exact u1 27 0 _ (fun z => by unfold wnP meP sP lsP at z; omega)
    have e5 : υ 5 0 0 = (N : Nat) := by rw [u1 5 0 0 (fun z => by unfold wnP meP sP lsP at z; omega)]; exact hN
    have e25 : υ 2 0 5 = τ 2 0 5 := u1 2 0 5 (fun z => by unfold wnP meP sP lsP at z; omega)
    have hW : WIN V b := ⟨hm υ 0, N, _, L, by rw [eh, ← hN]; exact t3.1, by omega, u3.dw e5, u4⟩
    have hL : ILD V υ := ⟨t6.1.fr u1 (fun c j hc z => by unfold wnP meP sP lsP at z; omega), fun z => by omega, t6.2.2.1.fr u1 ⟨fun z => by unfold wnP meP sP lsP at z; omega, fun k z => by unfold wnP meP sP lsP at z; omega, fun k z => by unfold wnP meP sP lsP at z; omega⟩, fun _ => ⟨by omega, u3⟩⟩
    refine b_X11_winners_43 (h _ b (F2.u (by unfold kC; omega)) (hL.fr g (by omega)) ?_ (Or.inr hW))
    refine ⟨Or.inr (by rw [up_s]; exact hW), ?_, fun q hq => ?_⟩
    · rw [up_j (by omega)]; exact c7.2.1
    · rw [up_c (by omega), up_c (by omega)]; exact c7.2.2 q hq
  · refine b_X13_winners_0 (d_makeI h1 h2 (fun υ f1 u1 u2 u3 u4 => ?_))
    show WP mX13_winners 4 [vR 14 0] [] υ Q
    have hn0 := u3.1.2.2.2.2
    refine b_X13_winners_4 ⟨fun z => ?_, fun z => b_X13_winners_22 (h υ _ f1 u4 (Or.inl ⟨_, _, u3.1, z, rfl⟩))⟩
    obtain ⟨N, hN⟩ : ∃ N : Nat, υ 14 0 51 = N := ⟨(υ 14 0 51).toNat, by omega⟩
    refine d_winnersNow (N := N) hV u1.2.2.1 u2 u3 hN (by omega) (fun ω L b o1 o2 o3 => ?_)
    refine b_X13_winners_22 (h ω b (f1.tr (o1.wk (fun c i j z => by unfold wwP coP mkP smP at z; unfold kM; omega))) (u4.fr o1 (by unfold wwP coP mkP smP; omega)) (Or.inr ⟨ri υ, N, _, L, by rw [← hN]; exact u3.1, by omega, fun a b ha hb hne F hF s hs hsa => o2 a b (by omega) (by omega) hne F hF s hs hsa, o3⟩))
end Calls2
