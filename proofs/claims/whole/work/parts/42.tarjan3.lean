/-! ===== Tarjan's search: close ===== -/
section Tarjan3
variable {V : Vy} {od lo hy oy od' lo' hy' oy' : Int → Int} {xe xe' : Int → Int → Prop} {pa pa' : Nat → Int} {d : Nat} {en nu nu' g : Int} {s t : Int}
theorem T_close (hV : VOK V) (hA : JA V od hy oy pa d en) (hB : JB V od lo oy xe pa d) (hC : JC V od hy oy xe nu) (hK : KK V hy oy nu) (hd : 0 < d) (hs : pa (d - 1) = s) (hdone : ∀ u, E V s u → u = s ∨ xe s u) (hlo : lo s = od s) (hg : JO oy nu (fun t => ∃ x, Op V od oy x ∧ od s ≤ od x ∧ xe x t ∧ oy t ≠ -5) g) (hoC : ∀ x, Op V od oy x → od s ≤ od x → oy' x = if g = -1 then nu else g) (hoN : ∀ x, isSt V x → ¬ (Op V od oy x ∧ od s ≤ od x) → oy' x = oy x) (hhC : ∀ x, Op V od oy x → od s ≤ od x → hy' x = if g = -1 then nu else -1) (hhB : 1 < d → hy' (pa (d - 2)) = jn (hy (pa (d - 2))) (oy' s)) (hhN : ∀ x, isSt V x → ¬ (Op V od oy x ∧ od s ≤ od x) → (1 < d → x ≠ pa (d - 2)) → hy' x = hy x) (hn : nu' = if g = -1 then nu + 1 else nu) : (JA V od hy' oy' pa (d - 1) en ∧ JB V od lo oy' xe pa (d - 1) ∧ JC V od hy' oy' xe nu' ∧ KK V hy' oy' nu') ∧ ∀ x, Op V od oy' x ↔ Op V od oy x ∧ od x < od s := by
  obtain ⟨a1, a2, a3, a4, a5⟩ := id hA
  obtain ⟨b1, b2, b3, b4, b5, b6, b7, b8⟩ := hB
  have so : Op V od oy s := by rw [← hs]; exact a3 _ (by omega)
  have nu0 := hK.2.2.2
  have nule : nu ≤ nu' := by rw [hn]; split <;> omega
  have hgv : g = -1 ∨ (0 ≤ g ∧ g < nu) ∨ g = -6 := by
    rcases hg with h | h | h
    · exact Or.inl h.1
    · exact Or.inr (Or.inl ⟨h.1, h.2.1⟩)
    · exact Or.inr (Or.inr h.1)
  have oC5 : ∀ x, Op V od oy x → od s ≤ od x → oy' x ≠ -5 := fun x h1 h2 => by
    rw [hoC x h1 h2]; split <;> omega
  have opi : ∀ x, Op V od oy' x ↔ Op V od oy x ∧ od x < od s := fun x => by
    refine ⟨fun h => ?_, fun h => ⟨h.1.1, h.1.2.1, by rw [hoN x h.1.1 (fun z => by omega)]; exact h.1.2.2⟩⟩
    by_cases c : Op V od oy x ∧ od s ≤ od x
    · exact absurd h.2.2 (oC5 x c.1 c.2)
    · have ho := h.2.2
      rw [hoN x h.1 c] at ho
      have hx : Op V od oy x := ⟨h.1, h.2.1, ho⟩
      exact ⟨hx, by
        apply Classical.byContradiction
        intro q
        exact c ⟨hx, by omega⟩⟩
  have bs : 1 < d → od (pa (d - 2)) < od s := fun q => by rw [← hs]; exact a4 _ _ (by omega) (by omega)
  have top : ∀ e, e < d → ∀ x, pa e = x → od s ≤ od x → x = s := fun e he x hx hle => by
    by_cases c : e = d - 1
    · rw [← hx, c, hs]
    · have := a4 e (d - 1) (by omega) (by omega)
      rw [hs, hx] at this; omega
  -- what has been closed with s
  have done : ∀ x, Op V od oy x → od s ≤ od x → ∀ u, E V x u → u = x ∨ xe x u := fun x h1 h2 => by
    rcases b3 x h1 with ⟨e, e1, e2⟩ | z
    · rw [top e e1 x e2 h2]; exact hdone
    · exact z.2
  have c1 : ∀ x, Op V od oy x → od s ≤ od x → ∀ u, E V x u → (Op V od oy u ∧ od s ≤ od u) ∨ (xe x u ∧ oy u ≠ -5) := fun x h1 h2 u hu => by
    rcases done x h1 h2 u hu with z | z
    · rw [z]; exact Or.inl ⟨h1, h2⟩
    · by_cases c : oy u = -5
      · have hx := b6 x u h1 z
        refine Or.inl ⟨⟨hu.st hV h1.1, hx.2.2, c⟩, ?_⟩
        have := b5 (d - 1) (by omega) x u h1 ⟨by rw [hs]; exact h2, fun q => by omega⟩ z c
        rw [hs] at this; omega
      · exact Or.inr ⟨z, c⟩
  have c2 : ∀ n : Nat, ∀ x, Op V od oy x → od s ≤ od x → od x < n → Rch V x s := by
    intro n
    induction n with
    | zero => intro x hx _ hn; have := (a1 x hx.1).1; omega
    | succ n ih =>
      intro x hx hle hn
      rcases b3 x hx with ⟨e, e1, e2⟩ | ⟨z, -⟩
      · rw [top e e1 x e2 hle]; exact Rch.rf
      · obtain ⟨-, y, y1, y2, y3⟩ := b2 x hx
        have := b4 (d - 1) (by omega) x hx ⟨by rw [hs]; exact hle, fun q => by omega⟩
        rw [hs] at this
        exact y3.tr (ih y y1 (by omega) (by omega))
  have c2 : ∀ x, Op V od oy x → od s ≤ od x → Rch V x s := fun x hx hle => c2 ((od x).toNat + 1) x hx hle (by have := (a1 x hx.1).1; omega)
  have c3 : ∀ x, Op V od oy x → od s ≤ od x → Rch V s x := fun x hx hle => by
    have := b1 (d - 1) (by omega) x hx (by rw [hs]; exact hle)
    rw [hs] at this; exact this
  -- all that can be come to
  have rc : ∀ x, Op V od oy x → od s ≤ od x → ∀ u, Rch V x u → (Op V od oy u ∧ od s ≤ od u) ∨ ∃ t, (∃ x, Op V od oy x ∧ od s ≤ od x ∧ xe x t ∧ oy t ≠ -5) ∧ isSt V t ∧ Rch V t u := fun x hx hle u hu => by
    refine hu (fun u => (Op V od oy u ∧ od s ≤ od u) ∨ ∃ t, (∃ x, Op V od oy x ∧ od s ≤ od x ∧ xe x t ∧ oy t ≠ -5) ∧ isSt V t ∧ Rch V t u) (Or.inl ⟨hx, hle⟩) (fun a b h1 hab => ?_)
    rcases h1 with z | ⟨t, t1, t2, t3⟩
    · rcases c1 a z.1 z.2 b hab with q | q
      · exact Or.inl q
      · exact Or.inr ⟨b, ⟨a, z.1, z.2, q.1, q.2⟩, hab.st hV z.1.1, Rch.rf⟩
    · exact Or.inr ⟨t, t1, t2, t3.tr (Rch.one hab)⟩
  have tgt : ∀ x t, Op V od oy x → od s ≤ od x → (∃ y, Op V od oy y ∧ od s ≤ od y ∧ xe y t ∧ oy t ≠ -5) → Rch V x t ∧ isSt V t ∧ oy t ≠ -5 := fun x t hx hle ht => by
    obtain ⟨y, y1, y2, y3, y4⟩ := ht
    have := (b6 y t y1 y3).1
    exact ⟨((c2 x hx hle).tr (c3 y y1 y2)).tr (Rch.one this), this.st hV y1.1, y4⟩
  have cR : g = -1 → ∀ x, Op V od oy x → od s ≤ od x → ∀ u, Rch V x u → Op V od oy u ∧ od s ≤ od u := fun hg1 x hx hle u hu => by
    rcases rc x hx hle u hu with z | ⟨t, t1, -⟩
    · exact z
    · rcases hg with h | h | h
      · exact absurd t1 (h.2 t)
      · omega
      · omega
  have rR : g = -1 → ∀ x, Op V od oy x → od s ≤ od x → Rst V x := fun hg1 x hx hle => ⟨hx.1, fun u hu => by
    have := cR hg1 x hx hle u hu
    exact (c2 u this.1 this.2).tr (c3 x hx hle)⟩
  have rN : g ≠ -1 → ∀ x, Op V od oy x → od s ≤ od x → ¬ Rst V x := fun hg1 x hx hle hr => by
    have : ∃ t, (∃ y, Op V od oy y ∧ od s ≤ od y ∧ xe y t ∧ oy t ≠ -5) := by
      rcases hg with h | ⟨_, _, ⟨t, ht⟩, _⟩ | ⟨_, ⟨t, ht, _⟩ | ⟨t, _, ht, _⟩⟩
      · exact absurd h.1 hg1
      · exact ⟨t, ht⟩
      · exact ⟨t, ht⟩
      · exact ⟨t, ht⟩
    obtain ⟨t, ht⟩ := this
    obtain ⟨t1, t2, t3⟩ := tgt x t hx hle ht
    exact hK.cl hV t2 t3 (hr.2 t t1) hx.2.2
  -- what had been closed before
  have oldN : ∀ x, oy x ≠ -5 → ¬ (Op V od oy x ∧ od s ≤ od x) := fun x hx z => hx z.1.2.2
  have oldO : ∀ x, isSt V x → oy x ≠ -5 → oy' x = oy x := fun x h1 h2 => hoN x h1 (oldN x h2)
  have oldH : ∀ x, isSt V x → oy x ≠ -5 → hy' x = hy x := fun x h1 h2 => hhN x h1 (oldN x h2) (fun q z => h2 (by rw [z]; exact (a3 _ (by omega)).2.2))
  have oldR : ∀ x u, isSt V x → oy x ≠ -5 → Rch V x u → isSt V u ∧ oy u ≠ -5 ∧ hy' u = hy u := fun x u h1 h2 h3 => ⟨h3.st hV h1, hK.cl hV h1 h2 h3, oldH u (h3.st hV h1) (hK.cl hV h1 h2 h3)⟩
  have clo : ∀ x, isSt V x → oy' x ≠ -5 → oy x ≠ -5 ∨ (Op V od oy x ∧ od s ≤ od x) := fun x hx h => by
    by_cases c : Op V od oy x ∧ od s ≤ od x
    · exact Or.inr c
    · rw [hoN x hx c] at h; exact Or.inl h
  have kk : KK V hy' oy' nu' := by
    refine ⟨fun x hx hc => ?_, fun x y hx hyy hcx hcy hrx hry => ?_, fun r h0 h1 => ?_, by omega⟩
    · rcases clo x hx hc with c | c
      · obtain ⟨h1, h2, h3⟩ := hK.1 x hx c
        refine ⟨fun u hu => by rw [oldO u (hu.st hV hx) (h1 u hu)]; exact h1 u hu, ?_, ?_⟩
        · rw [oldH x hx c]
          exact h2.elim Or.inl (fun z => Or.inr ⟨z.1, by omega, z.2.2⟩)
        · rw [oldO x hx c]
          rcases h3 with ⟨h3, t, t', t1, t2, t3, t4, t5⟩ | ⟨h3, h4, h5⟩
          · exact Or.inl ⟨h3, t, t', t1, t2, t3, t4, by rw [(oldR x t hx c t3).2.2, (oldR x t' hx c t4).2.2]; exact t5⟩
          · exact Or.inr ⟨h3, by omega, fun u u1 u2 => by rw [(oldR x u hx c u2).2.2]; exact h5 u u1 u2⟩
      · refine ⟨fun u hu => ?_, ?_, ?_⟩
        · rcases c1 x c.1 c.2 u hu with z | z
          · exact oC5 u z.1 z.2
          · rw [oldO u (hu.st hV hx) z.2]; exact z.2
        · rw [hhC x c.1 c.2, hn]
          by_cases q : g = -1
          · rw [if_pos q, if_pos q]
            exact Or.inr ⟨nu0, by omega, rR q x c.1 c.2⟩
          · rw [if_neg q, if_neg q]
            exact Or.inl ⟨rfl, rN q x c.1 c.2⟩
        · rw [hoC x c.1 c.2]
          by_cases q : g = -1
          · rw [if_pos q, hn, if_pos q]
            refine Or.inr ⟨nu0, by omega, fun u u1 u2 => ?_⟩
            have := cR q x c.1 c.2 u u2
            rw [hhC u this.1 this.2, if_pos q]
          · rw [if_neg q, hn, if_neg q]
            rcases hg with h | ⟨h1, h2, -, h4⟩ | ⟨h1, h2⟩
            · exact absurd h.1 q
            · refine Or.inr ⟨h1, h2, fun u u1 u2 => ?_⟩
              rcases rc x c.1 c.2 u u2 with z | ⟨t, t1, t2, t3⟩
              · exact absurd u1 (rN q u z.1 z.2)
              · have t5 := (tgt x t c.1 c.2 t1).2.2
                rw [(oldR t u t2 t5 t3).2.2]
                have h6 := h4 t t1
                rcases (hK.1 t t2 t5).2.2 with z | z
                · omega
                · have := z.2.2 u u1 t3
                  rw [this, h6]
            · refine Or.inl ⟨h1, ?_⟩
              have six : ∀ t, (∃ y, Op V od oy y ∧ od s ≤ od y ∧ xe y t ∧ oy t ≠ -5) → oy t = -6 → ∃ t t', Rst V t ∧ Rst V t' ∧ Rch V x t ∧ Rch V x t' ∧ hy' t ≠ hy' t' := fun t ht h6 => by
                obtain ⟨t1, t2, t3⟩ := tgt x t c.1 c.2 ht
                rcases (hK.1 t t2 t3).2.2 with ⟨-, r, r', r1, r2, r3, r4, r5⟩ | z
                · exact ⟨r, r', r1, r2, t1.tr r3, t1.tr r4, by rw [(oldR t r t2 t3 r3).2.2, (oldR t r' t2 t3 r4).2.2]; exact r5⟩
                · omega
              rcases h2 with ⟨t, ht, h6⟩ | ⟨t, t', ht, ht', h6⟩
              · exact six t ht h6
              · obtain ⟨t1, t2, t3⟩ := tgt x t c.1 c.2 ht
                obtain ⟨u1, u2, u3⟩ := tgt x t' c.1 c.2 ht'
                rcases (hK.1 t t2 t3).2.2 with z | z
                · exact six t ht z.1
                · rcases (hK.1 t' u2 u3).2.2 with w | w
                  · exact six t' ht' w.1
                  · obtain ⟨r, r1, r2⟩ := rch_rest hV t2
                    obtain ⟨r', r1', r2'⟩ := rch_rest hV u2
                    refine ⟨r, r', r2, r2', t1.tr r1, u1.tr r1', ?_⟩
                    rw [(oldR t r t2 t3 r1).2.2, (oldR t' r' u2 u3 r1').2.2, z.2.2 r r2 r1, w.2.2 r' r2' r1']
                    exact h6
    · rcases clo x hx hcx with c | c
      · rcases clo y hyy hcy with e | e
        · rw [oldH x hx c, oldH y hyy e]; exact hK.2.1 x y hx hyy c e hrx hry
        · have q : g = -1 := Classical.byContradiction (fun q => rN q y e.1 e.2 hry)
          rw [oldH x hx c, hhC y e.1 e.2, if_pos q]
          refine ⟨fun z => ?_, fun z => absurd e.1.2.2 (hK.cl hV hx c z)⟩
          rcases (hK.1 x hx c).2.1 with w | w
          · exact absurd hrx w.2
          · omega
      · have q : g = -1 := Classical.byContradiction (fun q => rN q x c.1 c.2 hrx)
        rcases clo y hyy hcy with e | e
        · rw [oldH y hyy e, hhC x c.1 c.2, if_pos q]
          refine ⟨fun z => ?_, fun z => absurd (cR q x c.1 c.2 y z).1.2.2 e⟩
          rcases (hK.1 y hyy e).2.1 with w | w
          · exact absurd hry w.2
          · omega
        · rw [hhC x c.1 c.2, hhC y e.1 e.2]
          exact ⟨fun _ => (c2 x c.1 c.2).tr (c3 y e.1 e.2), fun _ => rfl⟩
    · by_cases c : r < nu
      · obtain ⟨x, x1, x2, x3, x4⟩ := hK.2.2.1 r h0 c
        exact ⟨x, x1, by rw [oldO x x1 x2]; exact x2, x3, by rw [oldH x x1 x2]; exact x4⟩
      · have q : g = -1 := by
          apply Classical.byContradiction
          intro q
          rw [hn, if_neg q] at h1; omega
        rw [hn, if_pos q] at h1
        exact ⟨s, so.1, oC5 s so (Int.le_refl _), rR q s so (Int.le_refl _), by rw [hhC s so (Int.le_refl _), if_pos q]; omega⟩
  have o5 : ∀ u, isSt V u → oy' u = -5 → oy u = -5 := fun u hu h => by
    by_cases c : Op V od oy u ∧ od s ≤ od u
    · exact c.1.2.2
    · rw [hoN u hu c] at h; exact h
  have sg : ∀ e, e < d - 1 → ∀ x, od x < od s → Seg od pa (d - 1) e x → Seg od pa d e x := fun e he x hlt h => ⟨h.1, fun z => by
    by_cases c : e + 1 < d - 1
    · exact h.2 c
    · rw [show e + 1 = d - 1 by omega, hs]; exact hlt⟩
  refine ⟨⟨⟨fun x hx => ?_, a2, fun e he => ?_, fun e f hef hf => a4 e f hef (by omega), fun x hx => ?_⟩, ⟨fun e he x hx hle => b1 e (by omega) x ((opi x).mp hx).1 hle, fun x hx => ?_, fun x hx => ?_, fun e he x hx hsg => b4 e (by omega) x ((opi x).mp hx).1 (sg e he x ((opi x).mp hx).2 hsg), fun e he x u hx hsg hxe hu => ?_, fun x u hx hxe => b6 x u ((opi x).mp hx).1 hxe, fun e he x u hx hlt hxe hu hle => ?_, fun e he => b8 e (by omega)⟩, fun x hx => ?_, kk⟩, opi⟩
  · have h1 := a1 x hx
    refine ⟨h1.1, h1.2.1, fun z => ?_⟩
    have nc : ¬ (Op V od oy x ∧ od s ≤ od x) := fun q => q.1.2.1 z
    rw [hoN x hx nc, hhN x hx nc (fun q w => (a3 (d - 2) (by omega)).2.1 (by rw [← w]; exact z))]
    exact h1.2.2 z
  · refine (opi _).mpr ⟨a3 e (by omega), ?_⟩
    rw [← hs]; exact a4 e (d - 1) (by omega) (by omega)
  · obtain ⟨h1, h2⟩ := (opi x).mp hx
    have := a5 x h1
    refine ⟨?_, this.2⟩
    apply Classical.byContradiction
    intro q
    have h3 := this.2
    rw [show (0 : Nat) = d - 1 by omega, hs] at h3
    omega
  · obtain ⟨h1, h2⟩ := (opi x).mp hx
    obtain ⟨h3, y, y1, y2, y3⟩ := b2 x h1
    exact ⟨h3, y, (opi y).mpr ⟨y1, by omega⟩, y2, y3⟩
  · obtain ⟨h1, h2⟩ := (opi x).mp hx
    rcases b3 x h1 with ⟨e, e1, e2⟩ | z
    · refine Or.inl ⟨e, ?_, e2⟩
      apply Classical.byContradiction
      intro q
      have : x = s := by rw [← e2, show e = d - 1 by omega, hs]
      rw [this] at h2; omega
    · exact Or.inr z
  · obtain ⟨h1, h2⟩ := (opi x).mp hx
    have hu' := o5 u ((b6 x u h1 hxe).1.st hV h1.1) hu
    exact b5 e (by omega) x u h1 (sg e he x h2 hsg) hxe hu'
  · obtain ⟨h1, h2⟩ := (opi x).mp hx
    have hu' := o5 u ((b6 x u h1 hxe).1.st hV h1.1) hu
    exact b7 e (by omega) x u h1 hlt hxe hu' hle
  · obtain ⟨h1, h2⟩ := (opi x).mp hx
    have hd1 : 1 < d := by
      apply Classical.byContradiction
      intro q
      have h3 := (a5 x h1).2
      rw [show (0 : Nat) = d - 1 by omega, hs] at h3
      omega
    have tt : ∀ u, xe x u → oy u = -5 → oy' u ≠ -5 → x = pa (d - 2) ∧ u = s := fun u hxe hu hu' => by
      have hb := b6 x u h1 hxe
      have hus := hb.1.st hV h1.1
      have hc := (clo u hus hu').resolve_left (fun q => q hu)
      have := b7 (d - 2) (by omega) x u h1 (by rw [show d - 2 + 1 = d - 1 by omega, hs]; exact h2) hxe hu (by rw [show d - 2 + 1 = d - 1 by omega, hs]; exact hc.2)
      rw [show d - 2 + 1 = d - 1 by omega, hs] at this
      exact this
    have T1 : JO oy' nu' (fun t => xe x t ∧ oy t ≠ -5) (hy x) := (hC x h1).cg nule (fun _ => Iff.rfl) (fun u hu => oldO u ((b6 x u h1 hu.1).1.st hV h1.1) hu.2)
    have nc : ¬ (Op V od oy x ∧ od s ≤ od x) := fun z => by omega
    by_cases c : x = pa (d - 2)
    · rw [show hy' x = jn (hy x) (oy' s) by rw [c]; exact hhB hd1]
      have one : JO oy' nu' (fun u => u = s) (oy' s) := by
        rcases (kk.1 s so.1 (oC5 s so (Int.le_refl _))).2.2 with z | z
        · exact Or.inr (Or.inr ⟨z.1, Or.inl ⟨s, rfl, z.1⟩⟩)
        · exact Or.inr (Or.inl ⟨z.1, z.2.1, ⟨s, rfl⟩, fun u hu => by rw [hu]⟩)
      refine T1.join one (fun u => ⟨fun z => ?_, fun z => ?_⟩)
      · by_cases q : oy u = -5
        · exact Or.inr (tt u z.1 q z.2).2
        · exact Or.inl ⟨z.1, q⟩
      · rcases z with z | z
        · exact ⟨z.1, by rw [oldO u ((b6 x u h1 z.1).1.st hV h1.1) z.2]; exact z.2⟩
        · have := b8 (d - 2) (by omega)
          rw [show d - 2 + 1 = d - 1 by omega, hs, ← c] at this
          rw [z]; exact ⟨this, oC5 s so (Int.le_refl _)⟩
    · rw [hhN x h1.1 nc (fun _ => c)]
      refine T1.cg (Int.le_refl _) (fun u => ⟨fun z => ⟨z.1, by rw [oldO u ((b6 x u h1 z.1).1.st hV h1.1) z.2]; exact z.2⟩, fun z => ⟨z.1, fun q => c (tt u z.1 q z.2).1⟩⟩) (fun _ _ => rfl)
end Tarjan3
