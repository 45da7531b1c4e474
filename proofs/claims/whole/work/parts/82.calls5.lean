/-! ===== rest, told ===== -/
def RN (P : Prop) (R : Int → Prop) (x : Int) : Prop := (P ∧ R x) ∨ (¬ P ∧ x = -1)
theorem RN.un {P P' : Prop} {R R' : Int → Prop} {x y : Int} (hP : P ↔ P') (h : ∀ x y, P → R x → R' y → x = y) (h1 : RN P R x) (h2 : RN P' R' y) : x = y := by
  rcases h1 with ⟨a, b⟩ | ⟨a, b⟩
  · rcases h2 with ⟨c, d⟩ | ⟨c, d⟩
    · exact h x y a b d
    · exact absurd (hP.mp a) c
  · rcases h2 with ⟨c, d⟩ | ⟨c, d⟩
    · exact absurd (hP.mpr c) a
    · omega
noncomputable def mc (V : Vy) (home : Int → Int) (k : Int) (m : Nat) : Int := (cnt (fun s => isSt V (s : Int) ∧ home (s : Int) = k) m : Nat)
def RST (V : Vy) (home : Int → Int) (k w x : Int) : Prop := (w = 0 ∧ isSt V x ∧ home x = k ∧ ∀ s, isSt V s → home s = k → x ≤ s) ∨ (w = 1 ∧ x = mc V home k 1024) ∨ (w = 2 ∧ x = (cnt (fun s => isSt V (s : Int) ∧ BAS V home k (s : Int)) 1024 : Nat)) ∨ ((10 ≤ w ∧ w < 10 + mc V home k 1024) ∧ isSt V x ∧ home x = k ∧ mc V home k x.toNat = w - 10) ∨ ((w < 0 ∨ 2 < w) ∧ ¬ (10 ≤ w ∧ w < 10 + mc V home k 1024) ∧ x = -1)
section Calls5
variable {σ τ : St} {Q : Res → St → Prop} {V : Vy} {home : Int → Int} {k w : Int}
theorem RST.cg {f g : Int → Int} {x : Int} (hfg : ∀ s, isSt V s → f s = g s) (h : RST V f k w x) : RST V g k w x := by
  have ec : ∀ m, mc V f k m = mc V g k m := fun m => by
    unfold mc
    rw [cnt_eq (P := fun s => isSt V (s : Int) ∧ f (s : Int) = k) (Q := fun s => isSt V (s : Int) ∧ g (s : Int) = k) (fun s _ => ⟨fun z => ⟨z.1, by rw [← hfg _ z.1]; exact z.2⟩, fun z => ⟨z.1, by rw [hfg _ z.1]; exact z.2⟩⟩)]
  unfold RST at h ⊢
  rw [ec, ec] at h
  rcases h with ⟨a, b, c, d⟩ | h | ⟨a, b⟩ | ⟨a, b, c, d⟩ | h
  · exact Or.inl ⟨a, b, by rw [← hfg x b]; exact c, fun s hs e => d s hs (by rw [hfg s hs]; exact e)⟩
  · exact Or.inr (Or.inl h)
  · refine Or.inr (Or.inr (Or.inl ⟨a, ?_⟩))
    rw [b, cnt_eq (P := fun s => isSt V (s : Int) ∧ BAS V f k (s : Int)) (Q := fun s => isSt V (s : Int) ∧ BAS V g k (s : Int)) (fun s _ => and_congr_right (fun _ => bas_cg hfg))]
  · exact Or.inr (Or.inr (Or.inr (Or.inl ⟨a, b, by rw [← hfg x b]; exact c, d⟩)))
  · exact Or.inr (Or.inr (Or.inr (Or.inr h)))
theorem mc_lt (hV : VOK V) {x y : Int} (hx : isSt V x) (h1 : home x = k) (hxy : x < y) : mc V home k x.toNat < mc V home k y.toNat := by
  have hb := st_bd hV hx
  unfold mc
  have := cnt_slt (P := fun s => isSt V (s : Int) ∧ home (s : Int) = k) (a := x.toNat) (b := y.toNat) (by omega) (by rw [show ((x.toNat : Nat) : Int) = x by omega]; exact ⟨hx, h1⟩)
  omega
theorem RST.un (hV : VOK V) {x y : Int} (h : RST V home k w x) (h' : RST V home k w y) : x = y := by
  rcases h with ⟨a, b, c, d⟩ | ⟨a, b⟩ | ⟨a, b⟩ | ⟨a, b, c, d⟩ | ⟨a, b, c⟩
  · rcases h' with ⟨a', b', c', d'⟩ | ⟨a', _⟩ | ⟨a', _⟩ | ⟨a', _⟩ | ⟨a', _⟩
    · have := d y b' c'
      have := d' x b c
      omega
    all_goals omega
  · rcases h' with ⟨a', _⟩ | ⟨a', b'⟩ | ⟨a', _⟩ | ⟨a', _⟩ | ⟨a', _⟩
    all_goals omega
  · rcases h' with ⟨a', _⟩ | ⟨a', b'⟩ | ⟨a', b'⟩ | ⟨a', _⟩ | ⟨a', _⟩
    all_goals omega
  · rcases h' with ⟨a', _⟩ | ⟨a', b'⟩ | ⟨a', b'⟩ | ⟨a', b', c', d'⟩ | ⟨a', b', _⟩
    · omega
    · omega
    · omega
    · rcases Int.lt_trichotomy x y with z | z | z
      · have := mc_lt hV b c z
        omega
      · exact z
      · have := mc_lt hV b' c' z
        omega
    · exact absurd a b'
  · rcases h' with ⟨a', _⟩ | ⟨a', b'⟩ | ⟨a', b'⟩ | ⟨a', _⟩ | ⟨a', b', c'⟩
    · omega
    · omega
    · omega
    · exact absurd a' b
    · omega
/-- the members of a REST stand in order -/
theorem mem_cnt {k : Nat} (hV : VOK V) (hS : RS σ 0 V) (hk : (k : Int) < σ 5 0 0) : ∀ j : Nat, (j : Int) < σ 30 0 (k + 1) - σ 30 0 k → mc V (hm σ 0) k (σ 29 0 ((σ 30 0 k).toNat + j)).toNat = j := by
  have hm' := hS.2.2.2.1 (k : Int) (by omega) hk
  unfold RSm at hm'
  rw [Int.toNat_natCast] at hm'
  obtain ⟨m1, m2, m3, m4, m5, m6⟩ := hm'
  intro j
  induction j with
  | zero =>
    intro hj
    unfold mc
    rw [cnt_0 (fun y hy z => ?_)]
    obtain ⟨a, a1, a2, a3⟩ := m6 _ z.1 z.2
    have hq := m4 (σ 30 0 k).toNat (by omega) (by omega)
    have := (st_bd hV hq.1).1
    by_cases e : a = (σ 30 0 k).toNat
    · rw [Nat.add_zero, ← e, a3] at hy
      omega
    · have := m5 (σ 30 0 k).toNat a (by omega) (by omega) a2
      rw [Nat.add_zero] at hy
      omega
  | succ j ih =>
    intro hj
    have h1 := ih (by omega)
    have q1 := m4 ((σ 30 0 k).toNat + j) (by omega) (by omega)
    have q2 := m4 ((σ 30 0 k).toNat + (j + 1)) (by omega) (by omega)
    have b1 := st_bd hV q1.1
    have b2' := st_bd hV q2.1
    have hlt := m5 ((σ 30 0 k).toNat + j) ((σ 30 0 k).toNat + (j + 1)) (by omega) (by omega) (by omega)
    unfold mc at h1 ⊢
    rw [cnt_ext (P := fun s => isSt V (s : Int) ∧ hm σ 0 (s : Int) = k) (n := (σ 29 0 ((σ 30 0 k).toNat + j)).toNat + 1) (m := (σ 29 0 ((σ 30 0 k).toNat + (j + 1))).toNat) (by omega) (fun y hy1 hy2 z => ?_), cnt_t (P := fun s => isSt V (s : Int) ∧ hm σ 0 (s : Int) = k) (by rw [show (((σ 29 0 ((σ 30 0 k).toNat + j)).toNat : Nat) : Int) = σ 29 0 ((σ 30 0 k).toNat + j) by omega]; exact q1)]
    · push_cast; push_cast at h1; omega
    · obtain ⟨a, a1, a2, a3⟩ := m6 _ z.1 z.2
      by_cases e : a ≤ (σ 30 0 k).toNat + j
      · by_cases e2 : a = (σ 30 0 k).toNat + j
        · rw [e2] at a3; omega
        · have := m5 a ((σ 30 0 k).toNat + j) a1 (by omega) (by omega)
          omega
      · by_cases e2 : a = (σ 30 0 k).toNat + (j + 1)
        · rw [e2] at a3; omega
        · have := m5 ((σ 30 0 k).toNat + (j + 1)) a (by omega) (by omega) a2
          omega
theorem pr_rest {k w : Int} (hw : in32 w) (hI : INV V σ) : PRC mX11_rest mX13_rest [vR 12 0, vI k, vI w, vU, vU] [vR 14 0, vI k, vI w, vU, vU] σ := by
  have hV := hI.1.1
  refine PRC.mk (R := RN (RR V k) (fun x => ∃ home n, HOME V home n ∧ RST V home k w x)) (R' := RN (RR V k) (fun x => ∃ home n, HOME V home n ∧ RST V home k w x)) hI (fun Q h => ?_) (fun τ Q h1 h2 h => ?_) (fun x y => RN.un Iff.rfl (fun x y _ ⟨f, n, hf, e⟩ ⟨g, m, hg, e'⟩ => (e.cg (hf.uniq hV hg).1).un hV e'))
  · refine b_X11_rest_0 (c_readyI hV hI.1.2.1 hI.2.2.2.1 hI.2.2.2.2.1 (fun τ f1 t1 t2 t3 t4 t5 t6 t7 => ?_))
    show WP mX11_rest 7 [vR 12 0, vI k, vI w, vU, vU] [] τ Q
    have go : ∀ x, (0 ≤ k ∧ k < τ 5 0 0) → RST V (hm τ 0) k w x → Q (.inl (some (vI x))) τ := fun x z hx => h τ x f1 t6 t7 (Or.inl ⟨(RR.iff hV t3.1).mpr z, _, _, t3.1, hx⟩)
    refine b_X11_rest_7 ⟨fun z => ?_, fun z => h τ _ f1 t6 t7 (Or.inr ⟨fun q => z ((RR.iff hV t3.1).mp q), rfl⟩)⟩
    obtain ⟨kn, rfl⟩ : ∃ n : Nat, k = n := ⟨k.toNat, by omega⟩
    have hn := t3.2.1
    have hm' := t3.2.2.2.1 (kn : Int) z.1 z.2
    unfold RSm at hm'
    have hsz : mc V (hm τ 0) kn 1024 = τ 30 0 (kn + 1) - τ 30 0 kn := by
      rw [t4 kn z.2]; rfl
    have hbs : τ 31 0 kn = (cnt (fun s => isSt V (s : Int) ∧ BAS V (hm τ 0) kn (s : Int)) 1024 : Nat) := by
      rw [t3.2.2.2.2 kn z.2, cnt_eq (P := fun s => isSt V (s : Int) ∧ τ 28 0 s = kn) (Q := fun s => isSt V (s : Int) ∧ BAS V (hm τ 0) kn (s : Int)) (fun s _ => and_congr_right (fun hs => by
        have := t3.2.2.1 (s : Int) hs kn (by omega)
        rw [Int.toNat_natCast] at this
        exact this))]
    rw [Int.toNat_natCast] at hm' ⊢
    rw [show ((kn : Int) + 1).toNat = kn + 1 by omega]
    obtain ⟨m1, m2, m3, m4, m5, m6⟩ := hm'
    have hl := m4 (τ 30 0 kn).toNat (by omega) (by omega)
    have fail : ¬ (10 ≤ w ∧ w < 10 + mc V (hm τ 0) kn 1024) → (w < 0 ∨ 2 < w) → WP mX11_rest 93 [vU, vI (kn : Int), vI w, vR 5 0, vU] [] τ Q := fun q1 q2 => b_X11_rest_93 (b_X11_rest_94 ⟨fun _ => go _ z (Or.inr (Or.inr (Or.inr (Or.inr ⟨q2, q1, rfl⟩)))), fun z => absurd rfl z⟩)
    refine ⟨fun w0 => ⟨⟨by omega, by omega, m1, by omega⟩, go _ z (Or.inl ⟨w0, hl.1, hl.2, fun s hs he => ?_⟩)⟩, fun w1 => ⟨⟨by unfold in32; omega, by omega, by omega, by omega, by omega, by unfold in32; omega⟩, go _ z (Or.inr (Or.inl ⟨w1, hsz.symm⟩))⟩, fun w2 => ⟨⟨by omega, by omega⟩, go _ z (Or.inr (Or.inr (Or.inl ⟨w2, hbs⟩)))⟩, fun w3 => ⟨fun w4 => fail (fun q => by omega) w3, fun w4 => ⟨by unfold in32 at hw ⊢; omega, ⟨by unfold in32; omega, by omega, by omega, by omega, by omega, by unfold in32; omega⟩, fun w5 => fail (fun q => by omega) w3, fun w5 => ?_⟩⟩⟩
    · obtain ⟨a, a1, a2, a3⟩ := m6 s hs he
      by_cases e : a = (τ 30 0 kn).toNat
      · rw [← a3, e]; omega
      · have := m5 (τ 30 0 kn).toNat a (by omega) (by omega) a2
        omega
    · refine b_X11_rest_94 ?_
      rw [Int.toNat_natCast]
      refine ⟨fun z => by omega, fun _ => ⟨by omega, by unfold in32; omega, by unfold in32; omega, by omega, ?_⟩⟩
      have hj := mem_cnt hV t3 z.2 (w - 10).toNat (by omega)
      have e1 : (τ 30 0 kn + w - 10).toNat = (τ 30 0 kn).toNat + (w - 10).toNat := by omega
      rw [e1]
      have hq := m4 ((τ 30 0 kn).toNat + (w - 10).toNat) (by omega) (by omega)
      exact go _ z (Or.inr (Or.inr (Or.inr (Or.inl ⟨⟨w4, by omega⟩, hq.1, hq.2, by rw [hj]; omega⟩))))
  · refine b_X13_rest_0 (d_isRestI h1 h2 (fun υ f1 u1 u2 u3 u4 => ?_))
    show WP mX13_rest 5 [vR 14 0, vI k, vI w, vU, vU] [vI (b2 (0 ≤ k ∧ k < υ 14 0 51))] υ Q
    have go : ∀ x, (0 ≤ k ∧ k < υ 14 0 51) → RST V (ri υ) k w x → Q (.inl (some (vI x))) υ := fun x z hx => h υ x f1 u4 (Or.inl ⟨(RR.iff hV u3.1).mpr z, _, _, u3.1, hx⟩)
    refine b_X13_rest_5 ⟨fun z => ?_, fun z => h υ _ f1 u4 (Or.inr ⟨fun q => b2_eq z ((RR.iff hV u3.1).mp q), rfl⟩)⟩
    have z' := b2_ne z
    obtain ⟨kn, rfl⟩ : ∃ n : Nat, k = n := ⟨k.toNat, by omega⟩
    obtain ⟨s1, s2, s3, s4, s5, s6, s7⟩ := u3
    have h86 : υ 86 0 kn = mc V (ri υ) kn 1024 := s5 kn z'.2
    have h87 : υ 87 0 kn = (cnt (fun s => isSt V (s : Int) ∧ BAS V (ri υ) kn (s : Int)) 1024 : Nat) := by
      rw [s6 kn z'.2, cnt_eq (P := fun s => isSt V (s : Int) ∧ υ 84 0 s = kn) (Q := fun s => isSt V (s : Int) ∧ BAS V (ri υ) kn (s : Int)) (fun s _ => and_congr_right (fun hs => by
        have := s3 (s : Int) hs kn (by omega)
        unfold on at this
        rw [Int.toNat_natCast] at this
        exact this))]
    have hcb : mc V (ri υ) kn 1024 ≤ 1024 ∧ 0 ≤ mc V (ri υ) kn 1024 := by
      unfold mc
      have := cnt_bd (fun s => isSt V (s : Int) ∧ ri υ (s : Int) = kn) 1024
      omega
    rw [Int.toNat_natCast]
    have hl := s4 kn z'.2
    refine ⟨fun w0 => ⟨fun w1 => ⟨fun w2 => ⟨by omega, by unfold in64; omega, fun q => ⟨by unfold in32; omega, ?_⟩, fun q => go _ z' (Or.inr (Or.inr (Or.inr (Or.inr ⟨by omega, fun q2 => q (by omega), rfl⟩))))⟩, fun w2 => ⟨by omega, go _ z' (Or.inr (Or.inr (Or.inl ⟨w2, h87⟩)))⟩⟩, fun w1 => ⟨by omega, go _ z' (Or.inr (Or.inl ⟨w1, h86⟩))⟩⟩, fun w0 => ⟨by omega, go _ z' (Or.inl ⟨w0, hl.1, hl.2.1, hl.2.2⟩)⟩⟩
    obtain ⟨b, b1, b2', b3⟩ := cnt_sel (P := fun s => isSt V (s : Int) ∧ ri υ (s : Int) = kn) (c := (w - 10).toNat) (n := 1024) (by unfold mc at h86; omega)
    have bb := b2'.1.1
    unfold inC at bb
    have hP : ∀ y : Nat, y ≤ b → (υ 83 0 y = kn ↔ isSt V (y : Int) ∧ ri υ (y : Int) = kn) := fun y hy => by
      refine ⟨fun e => ?_, fun e => e.2⟩
      by_cases hs : isSt V (y : Int)
      · exact ⟨hs, e⟩
      · have := s7 y (by omega) hs
        omega
    have key : ∀ m y : Nat, m + y = b → ∀ l : Int, l = (w - 10) - mc V (ri υ) kn y → WP mX13_rest 77 [vR 14 0, vI (kn : Int), vU, vI l, vI (y : Int)] [] υ Q := by
      intro m
      induction m with
      | zero =>
        intro y hy l hl'
        have e : y = b := by omega
        subst e
        have e83 := (hP y (by omega)).mpr b2'
        refine b_X13_rest_77 ?_
        rw [Int.toNat_natCast]
        refine ⟨by omega, fun z => absurd e83 z, fun _ => ⟨fun _ => go _ z' (Or.inr (Or.inr (Or.inr (Or.inl ⟨by omega, b2'.1, b2'.2, by rw [Int.toNat_natCast]; unfold mc; omega⟩)))), fun q => ?_⟩⟩
        unfold mc at hl'
        omega
      | succ m ih =>
        intro y hy l hl'
        refine b_X13_rest_77 ?_
        rw [Int.toNat_natCast]
        have hyb : mc V (ri υ) kn y ≤ w - 10 := by
          have := cnt_mono (P := fun s => isSt V (s : Int) ∧ ri υ (s : Int) = kn) (a := y) (b := b) (by omega)
          unfold mc
          omega
        have hy0 : 0 ≤ mc V (ri υ) kn y := by unfold mc; omega
        refine ⟨by omega, fun hne => ⟨by omega, fun _ => ⟨by unfold in32; omega, by unfold in32; omega, ih (y + 1) (by omega) _ ?_⟩, fun q => absurd q hne⟩, fun he => ⟨fun q => ?_, fun q => ⟨by omega, fun q2 => absurd he q2, fun _ => ⟨by unfold in32; omega, by unfold in32; omega, ih (y + 1) (by omega) _ ?_⟩⟩⟩⟩
        · unfold mc at hl' ⊢
          rw [cnt_f (P := fun s => isSt V (s : Int) ∧ ri υ (s : Int) = kn) (fun q => hne ((hP y (by omega)).mpr q))]
          omega
        · exfalso
          have := cnt_slt (P := fun s => isSt V (s : Int) ∧ ri υ (s : Int) = kn) (a := y) (b := b) (by omega) ((hP y (by omega)).mp he)
          unfold mc at hl'
          omega
        · unfold mc at hl' ⊢
          rw [cnt_t (P := fun s => isSt V (s : Int) ∧ ri υ (s : Int) = kn) ((hP y (by omega)).mp he)]
          push_cast
          omega
    exact key b 0 (by omega) _ (by unfold mc; rw [show cnt (fun s => isSt V (s : Int) ∧ ri υ (s : Int) = kn) 0 = 0 from rfl]; omega)
end Calls5
