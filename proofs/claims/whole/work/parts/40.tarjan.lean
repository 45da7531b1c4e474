/-! ===== Tarjan's search: the mathematics ===== -/
def JO (oy : Int → Int) (nu : Int) (T : Int → Prop) (a : Int) : Prop := (a = -1 ∧ ∀ t, ¬ T t) ∨ (0 ≤ a ∧ a < nu ∧ (∃ t, T t) ∧ ∀ t, T t → oy t = a) ∨ (a = -6 ∧ ((∃ t, T t ∧ oy t = -6) ∨ ∃ t t', T t ∧ T t' ∧ oy t ≠ oy t'))
theorem JO.cg {oy oy' : Int → Int} {nu nu' : Int} {T T' : Int → Prop} {a : Int} (h : JO oy nu T a) (hn : nu ≤ nu') (hT : ∀ t, T t ↔ T' t) (ho : ∀ t, T t → oy' t = oy t) : JO oy' nu' T' a := by
  rcases h with ⟨h1, h2⟩ | ⟨h1, h2, ⟨t, ht⟩, h4⟩ | ⟨h1, ⟨t, ht, h3⟩ | ⟨t, t', ht, ht', h3⟩⟩
  · exact Or.inl ⟨h1, fun t z => h2 t ((hT t).mpr z)⟩
  · exact Or.inr (Or.inl ⟨h1, by omega, ⟨t, (hT t).mp ht⟩, fun u hu => by rw [ho u ((hT u).mpr hu)]; exact h4 u ((hT u).mpr hu)⟩)
  · exact Or.inr (Or.inr ⟨h1, Or.inl ⟨t, (hT t).mp ht, by rw [ho t ht]; exact h3⟩⟩)
  · exact Or.inr (Or.inr ⟨h1, Or.inr ⟨t, t', (hT t).mp ht, (hT t').mp ht', by rw [ho t ht, ho t' ht']; exact h3⟩⟩)
theorem JO.join {oy : Int → Int} {nu : Int} {T T' U : Int → Prop} {a b : Int} (h : JO oy nu T a) (k : JO oy nu T' b) (hU : ∀ t, U t ↔ T t ∨ T' t) : JO oy nu U (jn a b) := by
  unfold jn
  by_cases c : a = -1
  · rw [if_pos (Or.inl c)]
    have hT : ∀ t, ¬ T t := by
      rcases h with h | h | h
      · exact h.2
      · omega
      · omega
    exact k.cg (Int.le_refl _) (fun t => ⟨fun z => (hU t).mpr (Or.inr z), fun z => ((hU t).mp z).resolve_left (hT t)⟩) (fun _ _ => rfl)
  · by_cases c2 : b = -1
    · have hT : ∀ t, ¬ T' t := by
        rcases k with h | h | h
        · exact h.2
        · omega
        · omega
      rw [if_neg (by omega), if_pos c2]
      exact h.cg (Int.le_refl _) (fun t => ⟨fun z => (hU t).mpr (Or.inl z), fun z => ((hU t).mp z).resolve_right (hT t)⟩) (fun _ _ => rfl)
    · replace h := h.resolve_left (fun z => c z.1)
      replace k := k.resolve_left (fun z => c2 z.1)
      by_cases e : a = b
      · rw [if_pos (Or.inr e)]
        rcases k with ⟨k1, k2, ⟨t, k3⟩, k4⟩ | ⟨k1, k2⟩
        · replace h := h.resolve_right (fun z => by omega)
          exact Or.inr (Or.inl ⟨k1, k2, ⟨t, (hU t).mpr (Or.inr k3)⟩, fun u hu => by
            rcases (hU u).mp hu with z | z
            · rw [← e]; exact h.2.2.2 u z
            · exact k4 u z⟩)
        · refine Or.inr (Or.inr ⟨k1, ?_⟩)
          rcases k2 with ⟨t, t1, t2⟩ | ⟨t, t', t1, t2, t3⟩
          · exact Or.inl ⟨t, (hU t).mpr (Or.inr t1), t2⟩
          · exact Or.inr ⟨t, t', (hU t).mpr (Or.inr t1), (hU t').mpr (Or.inr t2), t3⟩
      · rw [if_neg (fun z => z.elim c e), if_neg c2]
        refine Or.inr (Or.inr ⟨rfl, ?_⟩)
        rcases k with ⟨k1, k2, ⟨t, k3⟩, k4⟩ | ⟨k1, k2⟩
        · rcases h with ⟨h1, h2, ⟨t', h3⟩, h4⟩ | ⟨h1, h2⟩
          · exact Or.inr ⟨t', t, (hU t').mpr (Or.inl h3), (hU t).mpr (Or.inr k3), by rw [h4 t' h3, k4 t k3]; exact e⟩
          · rcases h2 with ⟨t, t1, t2⟩ | ⟨t, t', t1, t2, t3⟩
            · exact Or.inl ⟨t, (hU t).mpr (Or.inl t1), t2⟩
            · exact Or.inr ⟨t, t', (hU t).mpr (Or.inl t1), (hU t').mpr (Or.inl t2), t3⟩
        · rcases k2 with ⟨t, t1, t2⟩ | ⟨t, t', t1, t2, t3⟩
          · exact Or.inl ⟨t, (hU t).mpr (Or.inr t1), t2⟩
          · exact Or.inr ⟨t, t', (hU t).mpr (Or.inr t1), (hU t').mpr (Or.inr t2), t3⟩
def Op (V : Vy) (od oy : Int → Int) (x : Int) : Prop := isSt V x ∧ od x ≠ 0 ∧ oy x = -5
def Seg (od : Int → Int) (pa : Nat → Int) (d e : Nat) (x : Int) : Prop := od (pa e) ≤ od x ∧ (e + 1 < d → od x < od (pa (e + 1)))
def JA (V : Vy) (od hy oy : Int → Int) (pa : Nat → Int) (d : Nat) (en : Int) : Prop := (∀ x, isSt V x → 0 ≤ od x ∧ od x ≤ en ∧ (od x = 0 → oy x = -5 ∧ hy x = -1)) ∧ (∀ x y, isSt V x → isSt V y → od x ≠ 0 → od x = od y → x = y) ∧ (∀ e : Nat, e < d → Op V od oy (pa e)) ∧ (∀ e f : Nat, e < f → f < d → od (pa e) < od (pa f)) ∧ (∀ x, Op V od oy x → 0 < d ∧ od (pa 0) ≤ od x)
def JB (V : Vy) (od lo oy : Int → Int) (xe : Int → Int → Prop) (pa : Nat → Int) (d : Nat) : Prop := (∀ e : Nat, e < d → ∀ x, Op V od oy x → od (pa e) ≤ od x → Rch V (pa e) x) ∧ (∀ x, Op V od oy x → lo x ≤ od x ∧ ∃ y, Op V od oy y ∧ od y = lo x ∧ Rch V x y) ∧ (∀ x, Op V od oy x → (∃ e : Nat, e < d ∧ pa e = x) ∨ (lo x < od x ∧ ∀ t, E V x t → t = x ∨ xe x t)) ∧ (∀ e : Nat, e < d → ∀ x, Op V od oy x → Seg od pa d e x → lo (pa e) ≤ lo x) ∧ (∀ e : Nat, e < d → ∀ x t, Op V od oy x → Seg od pa d e x → xe x t → oy t = -5 → lo (pa e) ≤ od t) ∧ (∀ x t, Op V od oy x → xe x t → E V x t ∧ t ≠ x ∧ od t ≠ 0) ∧ (∀ e : Nat, e + 1 < d → ∀ x t, Op V od oy x → od x < od (pa (e + 1)) → xe x t → oy t = -5 → od (pa (e + 1)) ≤ od t → x = pa e ∧ t = pa (e + 1)) ∧ (∀ e : Nat, e + 1 < d → xe (pa e) (pa (e + 1)))
def JC (V : Vy) (od hy oy : Int → Int) (xe : Int → Int → Prop) (nu : Int) : Prop := ∀ x, Op V od oy x → JO oy nu (fun t => xe x t ∧ oy t ≠ -5) (hy x)
def KK (V : Vy) (hy oy : Int → Int) (nu : Int) : Prop := (∀ x, isSt V x → oy x ≠ -5 → (∀ t, E V x t → oy t ≠ -5) ∧ ((hy x = -1 ∧ ¬ Rst V x) ∨ (0 ≤ hy x ∧ hy x < nu ∧ Rst V x)) ∧ ((oy x = -6 ∧ ∃ t t', Rst V t ∧ Rst V t' ∧ Rch V x t ∧ Rch V x t' ∧ hy t ≠ hy t') ∨ (0 ≤ oy x ∧ oy x < nu ∧ BAS V hy (oy x) x))) ∧ (∀ x y, isSt V x → isSt V y → oy x ≠ -5 → oy y ≠ -5 → Rst V x → Rst V y → (hy x = hy y ↔ Rch V x y)) ∧ (∀ r, 0 ≤ r → r < nu → ∃ x, isSt V x ∧ oy x ≠ -5 ∧ Rst V x ∧ hy x = r) ∧ 0 ≤ nu
section Tarjan
variable {V : Vy} {od lo hy oy od' lo' hy' oy' : Int → Int} {xe xe' : Int → Int → Prop} {pa pa' : Nat → Int} {d : Nat} {en nu nu' : Int} {s t : Int}
theorem KK.cl (hV : VOK V) (h : KK V hy oy nu) {x y : Int} (hx : isSt V x) (hc : oy x ≠ -5) (hr : Rch V x y) : oy y ≠ -5 := by
  have : isSt V y ∧ oy y ≠ -5 := hr (fun z => isSt V z ∧ oy z ≠ -5) ⟨hx, hc⟩ (fun a b ha hab => ⟨hab.st hV ha.1, (h.1 a ha.1 ha.2).1 b hab⟩)
  exact this.2
/-- home of what is open says nothing -/
theorem KK.cg (hV : VOK V) (h : KK V hy oy nu) (ho : ∀ x, isSt V x → oy x ≠ -5 → hy' x = hy x) : KK V hy' oy nu := by
  refine ⟨fun x hx hc => ?_, fun x y hx hy hcx hcy hrx hry => ?_, fun r h0 h1 => ?_, h.2.2.2⟩
  · obtain ⟨h1, h2, h3⟩ := h.1 x hx hc
    have cl : ∀ u, Rch V x u → hy' u = hy u := fun u hu => ho u (hu.st hV hx) (h.cl hV hx hc hu)
    refine ⟨h1, by rw [ho x hx hc]; exact h2, ?_⟩
    rcases h3 with ⟨h3, t, t', t1, t2, t3, t4, t5⟩ | ⟨h3, h4, h5⟩
    · exact Or.inl ⟨h3, t, t', t1, t2, t3, t4, by rw [cl t t3, cl t' t4]; exact t5⟩
    · exact Or.inr ⟨h3, h4, fun u u1 u2 => by rw [cl u u2]; exact h5 u u1 u2⟩
  · rw [ho x hx hcx, ho y hy hcy]; exact h.2.1 x y hx hy hcx hcy hrx hry
  · obtain ⟨x, x1, x2, x3, x4⟩ := h.2.2.1 r h0 h1
    exact ⟨x, x1, x2, x3, by rw [ho x x1 x2]; exact x4⟩
theorem JA.pm (h : JA V od hy oy pa d en) {e f : Nat} (hef : e ≤ f) (hf : f < d) : od (pa e) ≤ od (pa f) := by
  rcases Nat.lt_or_eq_of_le hef with z | z
  · have := h.2.2.2.1 e f z hf; omega
  · rw [z]; omega
/-- a STATE is entered -/
theorem T_enter (hV : VOK V) (hA : JA V od hy oy pa d en) (hB : JB V od lo oy xe pa d) (hC : JC V od hy oy xe nu) (hen : 0 ≤ en) (ht : isSt V t) (h0 : od t = 0) (hd : d = 0 ∨ E V (pa (d - 1)) t) (ho : ∀ x, isSt V x → od' x = if x = t then en + 1 else od x) (hl : ∀ x, isSt V x → lo' x = if x = t then en + 1 else lo x) (hp : ∀ e, e ≠ d → pa' e = pa e) (hpd : pa' d = t) (hX : ∀ x u, isSt V x → (xe' x u ↔ (x ≠ t ∧ (xe x u ∨ (0 < d ∧ x = pa (d - 1) ∧ u = t))))) : JA V od' hy oy pa' (d + 1) (en + 1) ∧ JB V od' lo' oy xe' pa' (d + 1) ∧ JC V od' hy oy xe' nu := by
  obtain ⟨a1, a2, a3, a4, a5⟩ := id hA
  obtain ⟨b1, b2, b3, b4, b5, b6, b7, b8⟩ := hB
  have ot : od' t = en + 1 := by rw [ho t ht, if_pos rfl]
  have lt : lo' t = en + 1 := by rw [hl t ht, if_pos rfl]
  have on : ∀ x, isSt V x → x ≠ t → od' x = od x := fun x hx hn => by rw [ho x hx, if_neg hn]
  have ln : ∀ x, isSt V x → x ≠ t → lo' x = lo x := fun x hx hn => by rw [hl x hx, if_neg hn]
  have opn : ∀ x, Op V od oy x → x ≠ t := fun x hx hn => hx.2.1 (by rw [hn]; exact h0)
  have opo : ∀ x, Op V od' oy x → x ≠ t → Op V od oy x := fun x hx hn => ⟨hx.1, by rw [← on x hx.1 hn]; exact hx.2.1, hx.2.2⟩
  have opi : ∀ x, Op V od oy x → Op V od' oy x := fun x hx => ⟨hx.1, by rw [on x hx.1 (opn x hx)]; exact hx.2.1, hx.2.2⟩
  have opt : Op V od' oy t := ⟨ht, by rw [ot]; omega, ((a1 t ht).2.2 h0).1⟩
  have pd : ∀ e, e < d → pa' e = pa e ∧ od' (pa e) = od (pa e) ∧ lo' (pa e) = lo (pa e) ∧ od (pa e) ≤ en := fun e he => by
    have := a3 e he
    exact ⟨hp e (by omega), on _ this.1 (opn _ this), ln _ this.1 (opn _ this), (a1 _ this.1).2.1⟩
  have bd : ∀ x, isSt V x → x ≠ t → od' x ≤ en := fun x hx hn => by rw [on x hx hn]; exact (a1 x hx).2.1
  have sg : ∀ e, e < d → ∀ x, Op V od' oy x → Seg od' pa' (d + 1) e x → x ≠ t ∧ Seg od pa d e x := fun e he x hx hs => by
    obtain ⟨s1, s2⟩ := hs
    have s2' := s2 (by omega)
    by_cases xt : x = t
    · exfalso
      rw [xt, ot] at s2'
      by_cases c : e + 1 = d
      · rw [c, hpd, ot] at s2'; omega
      · have := pd (e + 1) (by omega)
        rw [this.1, this.2.1] at s2'; omega
    · refine ⟨xt, ?_, fun z => ?_⟩
      · rw [(pd e he).1, (pd e he).2.1, on x hx.1 xt] at s1; exact s1
      · rw [(pd (e + 1) z).1, (pd (e + 1) z).2.1, on x hx.1 xt] at s2'; exact s2'
  refine ⟨⟨fun x hx => ?_, fun x y hx hy hn he => ?_, fun e he => ?_, fun e f hef hf => ?_, fun x hx => ?_⟩, ⟨fun e he x hx hle => ?_, fun x hx => ?_, fun x hx => ?_, fun e he x hx hs => ?_, fun e he x u hx hs hxe hu => ?_, fun x u hx hxe => ?_, fun e he x u hx hlt hxe hu hle => ?_, fun e he => ?_⟩, fun x hx => ?_⟩
  · have h1 := a1 x hx
    by_cases c : x = t
    · rw [c, ot]; exact ⟨by omega, by omega, fun z => by omega⟩
    · rw [on x hx c]; exact ⟨h1.1, by omega, h1.2.2⟩
  · by_cases c : x = t
    · by_cases c2 : y = t
      · rw [c, c2]
      · have := bd y hy c2
        rw [c, ot] at he; omega
    · by_cases c2 : y = t
      · have := bd x hx c
        rw [c2, ot] at he; omega
      · rw [on x hx c] at hn he
        rw [on y hy c2] at he
        exact a2 x y hx hy hn he
  · by_cases c : e = d
    · rw [c, hpd]; exact opt
    · rw [hp e c]; exact opi _ (a3 e (by omega))
  · have he := pd e (by omega)
    rw [he.1, he.2.1]
    by_cases c : f = d
    · rw [c, hpd, ot]; omega
    · have hf' := pd f (by omega)
      rw [hf'.1, hf'.2.1]; exact a4 e f hef (by omega)
  · refine ⟨by omega, ?_⟩
    by_cases c : d = 0
    · have : pa' 0 = t := by rw [← hpd, c]
      rw [this, ot]
      by_cases xt : x = t
      · rw [xt, ot]; omega
      · have := (a5 x (opo x hx xt)).1; omega
    · have := pd 0 (by omega)
      rw [this.1, this.2.1]
      by_cases xt : x = t
      · rw [xt, ot]; omega
      · rw [on x hx.1 xt]; exact (a5 x (opo x hx xt)).2
  · by_cases c : e = d
    · rw [c, hpd] at hle ⊢
      by_cases xt : x = t
      · rw [xt]; exact Rch.rf
      · have := bd x hx.1 xt; omega
    · have h1 := pd e (by omega)
      rw [h1.1] at hle ⊢
      by_cases xt : x = t
      · rw [xt]
        have := hd.resolve_left (by omega)
        exact (b1 e (by omega) _ (a3 (d - 1) (by omega)) (hA.pm (by omega) (by omega))).tr (Rch.one this)
      · rw [h1.2.1, on x hx.1 xt] at hle
        exact b1 e (by omega) x (opo x hx xt) hle
  · by_cases xt : x = t
    · rw [xt, ot, lt]; exact ⟨Int.le_refl _, t, opt, ot, Rch.rf⟩
    · obtain ⟨h1, y, y1, y2, y3⟩ := b2 x (opo x hx xt)
      rw [on x hx.1 xt, ln x hx.1 xt]
      exact ⟨h1, y, opi y y1, by rw [on y y1.1 (opn y y1)]; exact y2, y3⟩
  · by_cases xt : x = t
    · exact Or.inl ⟨d, by omega, by rw [hpd, xt]⟩
    · rcases b3 x (opo x hx xt) with ⟨e, e1, e2⟩ | ⟨e1, e2⟩
      · exact Or.inl ⟨e, by omega, by rw [hp e (by omega)]; exact e2⟩
      · exact Or.inr ⟨by rw [on x hx.1 xt, ln x hx.1 xt]; exact e1, fun u hu => (e2 u hu).elim Or.inl (fun z => Or.inr ((hX x u hx.1).mpr ⟨xt, Or.inl z⟩))⟩
  · by_cases c : e = d
    · rw [c, hpd]
      have := hs.1
      rw [c, hpd, ot] at this
      by_cases xt : x = t
      · rw [xt]; omega
      · have := bd x hx.1 xt; omega
    · obtain ⟨xt, hs'⟩ := sg e (by omega) x hx hs
      have h1 := pd e (by omega)
      rw [h1.1, h1.2.2.1, ln x hx.1 xt]
      exact b4 e (by omega) x (opo x hx xt) hs'
  · have ut : ∀ x, Op V od oy x → xe x u → u ≠ t := fun x hx z => fun q => (b6 x u hx z).2.2 (by rw [q]; exact h0)
    by_cases c : e = d
    · have := hs.1
      rw [c, hpd, ot] at this
      by_cases xt : x = t
      · exact absurd xt ((hX x u hx.1).mp hxe).1
      · have := bd x hx.1 xt; omega
    · obtain ⟨xt, hs'⟩ := sg e (by omega) x hx hs
      have h1 := pd e (by omega)
      have hxo := opo x hx xt
      rw [h1.1, h1.2.2.1]
      rcases ((hX x u hx.1).mp hxe).2 with z | ⟨z1, z2, z3⟩
      · rw [on u ((b6 x u hxo z).1.st hV hx.1) (ut x hxo z)]
        exact b5 e (by omega) x u hxo hs' z hu
      · rw [z3, ot]
        have := (b2 _ (a3 e (by omega))).1
        omega
  · obtain ⟨xt, z⟩ := (hX x u hx.1).mp hxe
    have hxo := opo x hx xt
    rcases z with z | ⟨z1, z2, z3⟩
    · obtain ⟨q1, q2, q3⟩ := b6 x u hxo z
      refine ⟨q1, q2, ?_⟩
      rw [on u (q1.st hV hx.1) (fun q => q3 (by rw [q]; exact h0))]; exact q3
    · rw [z3]
      refine ⟨?_, fun q => xt q.symm, by rw [ot]; omega⟩
      rw [z2]; exact hd.resolve_left (by omega)
  · obtain ⟨xt, z⟩ := (hX x u hx.1).mp hxe
    have hxo := opo x hx xt
    have h1 := pd e (by omega)
    rw [h1.1]
    by_cases c : e + 1 = d
    · rw [c, hpd] at hlt hle ⊢
      rcases z with z | ⟨z1, z2, z3⟩
      · obtain ⟨q1, q2, q3⟩ := b6 x u hxo z
        have ut : u ≠ t := fun q => q3 (by rw [q]; exact h0)
        have := bd u (q1.st hV hx.1) ut
        omega
      · refine ⟨?_, z3⟩
        rw [z2, show d - 1 = e by omega]
    · have h2 := pd (e + 1) (by omega)
      rw [h2.1] at hlt hle ⊢
      rw [h2.2.1, on x hx.1 xt] at hlt
      rw [h2.2.1] at hle
      rcases z with z | ⟨z1, z2, z3⟩
      · obtain ⟨q1, q2, q3⟩ := b6 x u hxo z
        have ut : u ≠ t := fun q => q3 (by rw [q]; exact h0)
        rw [on u (q1.st hV hx.1) ut] at hle
        exact b7 e (by omega) x u hxo hlt z hu hle
      · have := hA.pm (e := e + 1) (f := d - 1) (by omega) (by omega)
        rw [← z2] at this; omega
  · have h1 := pd e (by omega)
    have h2 := a3 e (by omega)
    rw [h1.1]
    refine (hX _ _ h2.1).mpr ⟨opn _ h2, ?_⟩
    by_cases c : e + 1 = d
    · rw [c, hpd]
      exact Or.inr ⟨by omega, by rw [show d - 1 = e by omega], rfl⟩
    · rw [(pd (e + 1) (by omega)).1]
      exact Or.inl (b8 e (by omega))
  · by_cases xt : x = t
    · refine Or.inl ⟨?_, fun u z => ((hX x u hx.1).mp z.1).1 xt⟩
      rw [xt]; exact ((a1 t ht).2.2 h0).2
    · refine (hC x (opo x hx xt)).cg (Int.le_refl _) (fun u => ⟨fun z => ⟨(hX x u hx.1).mpr ⟨xt, Or.inl z.1⟩, z.2⟩, fun z => ⟨?_, z.2⟩⟩) (fun _ _ => rfl)
      rcases ((hX x u hx.1).mp z.1).2 with q | ⟨q1, q2, q3⟩
      · exact q
      · exact absurd (by rw [q3]; exact opt.2.2) z.2
end Tarjan
