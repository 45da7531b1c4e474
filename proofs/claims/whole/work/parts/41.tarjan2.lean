/-! ===== Tarjan's search: lower, join, retreat ===== -/
section Tarjan2
variable {V : Vy} {od lo hy oy od' lo' hy' oy' : Int → Int} {xe xe' : Int → Int → Prop} {pa pa' : Nat → Int} {d : Nat} {en nu nu' : Int} {s t : Int}
theorem T_low (hV : VOK V) (hA : JA V od hy oy pa d en) (hB : JB V od lo oy xe pa d) (hC : JC V od hy oy xe nu) (hd : 0 < d) (hs : pa (d - 1) = s) (ht : Op V od oy t) (hE : E V s t) (hne : t ≠ s) (hl : ∀ x, isSt V x → lo' x = if x = s then min (lo s) (od t) else lo x) (hX : ∀ x u, isSt V x → (xe' x u ↔ (xe x u ∨ (x = s ∧ u = t)))) : JB V od lo' oy xe' pa d ∧ JC V od hy oy xe' nu := by
  obtain ⟨a1, a2, a3, a4, a5⟩ := id hA
  obtain ⟨b1, b2, b3, b4, b5, b6, b7, b8⟩ := hB
  have so : Op V od oy s := by rw [← hs]; exact a3 _ (by omega)
  have ls : lo' s = min (lo s) (od t) := by rw [hl s so.1, if_pos rfl]
  have ln : ∀ x, isSt V x → x ≠ s → lo' x = lo x := fun x hx hn => by rw [hl x hx, if_neg hn]
  have le : ∀ x, isSt V x → lo' x ≤ lo x := fun x hx => by
    by_cases c : x = s
    · rw [c, ls]; omega
    · rw [ln x hx c]; omega
  have sn : ∀ e, e + 1 < d → ∀ x, od x < od (pa (e + 1)) → x ≠ s := fun e he x hlt z => by
    have := hA.pm (e := e + 1) (f := d - 1) (by omega) (by omega)
    rw [hs, ← z] at this; omega
  have pn : ∀ e, e + 1 < d → pa e ≠ s := fun e he => sn e he _ (a4 e (e + 1) (by omega) he)
  refine ⟨⟨b1, fun x hx => ?_, fun x hx => ?_, fun e he x hx hsg => ?_, fun e he x u hx hsg hxe hu => ?_, fun x u hx hxe => ?_, fun e he x u hx hlt hxe hu hle => ?_, fun e he => (hX _ _ (a3 e (by omega)).1).mpr (Or.inl (b8 e he))⟩, fun x hx => ?_⟩
  · obtain ⟨h1, y, y1, y2, y3⟩ := b2 x hx
    have h2 := le x hx.1
    refine ⟨by omega, ?_⟩
    by_cases c : x = s
    · subst c
      rw [ls]
      by_cases m : lo x ≤ od t
      · exact ⟨y, y1, by omega, y3⟩
      · exact ⟨t, ht, by omega, Rch.one hE⟩
    · rw [ln x hx.1 c]; exact ⟨y, y1, y2, y3⟩
  · rcases b3 x hx with z | ⟨z1, z2⟩
    · exact Or.inl z
    · by_cases c : x = s
      · exact Or.inl ⟨d - 1, by omega, by rw [hs, c]⟩
      · exact Or.inr ⟨by rw [ln x hx.1 c]; exact z1, fun u hu => (z2 u hu).elim Or.inl (fun q => Or.inr ((hX x u hx.1).mpr (Or.inl q)))⟩
  · have h1 := b4 e he x hx hsg
    have h2 := le _ (a3 e he).1
    by_cases c : x = s
    · by_cases k : e + 1 < d
      · exact absurd c (sn e k x (hsg.2 k))
      · rw [show e = d - 1 by omega, hs, c]; omega
    · rw [ln x hx.1 c]; omega
  · have h2 := le _ (a3 e he).1
    rcases (hX x u hx.1).mp hxe with z | ⟨z1, z2⟩
    · have := b5 e he x u hx hsg z hu; omega
    · by_cases k : e + 1 < d
      · exact absurd z1 (sn e k x (hsg.2 k))
      · rw [show e = d - 1 by omega, hs, ls, z2]; omega
  · rcases (hX x u hx.1).mp hxe with z | ⟨z1, z2⟩
    · exact b6 x u hx z
    · rw [z1, z2]; exact ⟨hE, hne, ht.2.1⟩
  · rcases (hX x u hx.1).mp hxe with z | ⟨z1, z2⟩
    · exact b7 e he x u hx hlt z hu hle
    · exact absurd z1 (sn e he x hlt)
  · refine (hC x hx).cg (Int.le_refl _) (fun u => ⟨fun z => ⟨(hX x u hx.1).mpr (Or.inl z.1), z.2⟩, fun z => ⟨?_, z.2⟩⟩) (fun _ _ => rfl)
    rcases (hX x u hx.1).mp z.1 with q | ⟨q1, q2⟩
    · exact q
    · exact absurd (by rw [q2]; exact ht.2.2) z.2
theorem T_join (hV : VOK V) (hA : JA V od hy oy pa d en) (hB : JB V od lo oy xe pa d) (hC : JC V od hy oy xe nu) (hK : KK V hy oy nu) (hd : 0 < d) (hs : pa (d - 1) = s) (ht : isSt V t) (ho : od t ≠ 0) (hc : oy t ≠ -5) (hE : E V s t) (hne : t ≠ s) (hh : ∀ x, isSt V x → hy' x = if x = s then jn (hy s) (oy t) else hy x) (hX : ∀ x u, isSt V x → (xe' x u ↔ (xe x u ∨ (x = s ∧ u = t)))) : JA V od hy' oy pa d en ∧ JB V od lo oy xe' pa d ∧ JC V od hy' oy xe' nu ∧ KK V hy' oy nu := by
  obtain ⟨a1, a2, a3, a4, a5⟩ := id hA
  obtain ⟨b1, b2, b3, b4, b5, b6, b7, b8⟩ := hB
  have so : Op V od oy s := by rw [← hs]; exact a3 _ (by omega)
  have hn : ∀ x, isSt V x → x ≠ s → hy' x = hy x := fun x hx q => by rw [hh x hx, if_neg q]
  refine ⟨⟨fun x hx => ?_, a2, a3, a4, a5⟩, ⟨b1, b2, fun x hx => ?_, b4, fun e he x u hx hsg hxe hu => ?_, fun x u hx hxe => ?_, fun e he x u hx hlt hxe hu hle => ?_, fun e he => (hX _ _ (a3 e (by omega)).1).mpr (Or.inl (b8 e he))⟩, fun x hx => ?_, ?_⟩
  · have := a1 x hx
    refine ⟨this.1, this.2.1, fun z => ?_⟩
    rw [hn x hx (fun q => so.2.1 (by rw [← q]; exact z))]
    exact this.2.2 z
  · rcases b3 x hx with z | ⟨z1, z2⟩
    · exact Or.inl z
    · exact Or.inr ⟨z1, fun u hu => (z2 u hu).elim Or.inl (fun q => Or.inr ((hX x u hx.1).mpr (Or.inl q)))⟩
  · rcases (hX x u hx.1).mp hxe with z | ⟨z1, z2⟩
    · exact b5 e he x u hx hsg z hu
    · exact absurd (by rw [← z2]; exact hu) hc
  · rcases (hX x u hx.1).mp hxe with z | ⟨z1, z2⟩
    · exact b6 x u hx z
    · rw [z1, z2]; exact ⟨hE, hne, ho⟩
  · rcases (hX x u hx.1).mp hxe with z | ⟨z1, z2⟩
    · exact b7 e he x u hx hlt z hu hle
    · exact absurd (by rw [← z2]; exact hu) hc
  · by_cases c : x = s
    · subst c
      rw [hh x hx.1, if_pos rfl]
      have one : JO oy nu (fun u => u = t) (oy t) := by
        rcases (hK.1 t ht hc).2.2 with z | z
        · exact Or.inr (Or.inr ⟨z.1, Or.inl ⟨t, rfl, z.1⟩⟩)
        · exact Or.inr (Or.inl ⟨z.1, z.2.1, ⟨t, rfl⟩, fun u hu => by rw [hu]⟩)
      refine (hC x hx).join one (fun u => ⟨fun z => ?_, fun z => ?_⟩)
      · rcases (hX x u hx.1).mp z.1 with q | q
        · exact Or.inl ⟨q, z.2⟩
        · exact Or.inr q.2
      · rcases z with z | z
        · exact ⟨(hX x u hx.1).mpr (Or.inl z.1), z.2⟩
        · exact ⟨(hX x u hx.1).mpr (Or.inr ⟨rfl, z⟩), by rw [z]; exact hc⟩
    · rw [hn x hx.1 c]
      refine (hC x hx).cg (Int.le_refl _) (fun u => ⟨fun z => ⟨(hX x u hx.1).mpr (Or.inl z.1), z.2⟩, fun z => ⟨?_, z.2⟩⟩) (fun _ _ => rfl)
      rcases (hX x u hx.1).mp z.1 with q | q
      · exact q
      · exact absurd q.1 c
  · exact hK.cg hV (fun x hx q => hn x hx (fun z => q (by rw [z]; exact so.2.2)))
theorem T_ret (hV : VOK V) (hA : JA V od hy oy pa d en) (hB : JB V od lo oy xe pa d) (hd : 0 < d) (hs : pa (d - 1) = s) (hdone : ∀ u, E V s u → u = s ∨ xe s u) (hlo : lo s ≠ od s) (hl : ∀ x, isSt V x → 1 < d → lo' x = if x = pa (d - 2) then min (lo x) (lo s) else lo x) : 1 < d ∧ JA V od hy oy pa (d - 1) en ∧ JB V od lo' oy xe pa (d - 1) := by
  obtain ⟨a1, a2, a3, a4, a5⟩ := id hA
  obtain ⟨b1, b2, b3, b4, b5, b6, b7, b8⟩ := hB
  have so : Op V od oy s := by rw [← hs]; exact a3 _ (by omega)
  obtain ⟨s1, y, y1, y2, y3⟩ := b2 s so
  have hd1 : 1 < d := by
    apply Classical.byContradiction
    intro q
    have := (a5 y y1).2
    rw [show (0 : Nat) = d - 1 by omega, hs] at this
    omega
  have bo := a3 (d - 2) (by omega)
  have bs : od (pa (d - 2)) < od s := by rw [← hs]; exact a4 _ _ (by omega) (by omega)
  have lb : lo' (pa (d - 2)) = min (lo (pa (d - 2))) (lo s) := by rw [hl _ bo.1 hd1, if_pos rfl]
  have ln : ∀ x, isSt V x → x ≠ pa (d - 2) → lo' x = lo x := fun x hx hn => by rw [hl x hx hd1, if_neg hn]
  have le : ∀ x, isSt V x → lo' x ≤ lo x := fun x hx => by
    by_cases c : x = pa (d - 2)
    · rw [c, lb]; omega
    · rw [ln x hx c]; omega
  have nb : ∀ e, e + 1 < d - 1 → ∀ x, od x < od (pa (e + 1)) → x ≠ pa (d - 2) := fun e he x hlt z => by
    have := hA.pm (e := e + 1) (f := d - 2) (by omega) (by omega)
    rw [← z] at this; omega
  have sg : ∀ e, e + 1 < d - 1 → ∀ x, Seg od pa (d - 1) e x → Seg od pa d e x := fun e he x h => ⟨h.1, fun _ => h.2 he⟩
  have sg2 : ∀ x, Seg od pa (d - 1) (d - 2) x → Seg od pa d (d - 2) x ∨ Seg od pa d (d - 1) x := fun x h => by
    by_cases c : od x < od s
    · exact Or.inl ⟨h.1, fun _ => by rw [show d - 2 + 1 = d - 1 by omega, hs]; exact c⟩
    · exact Or.inr ⟨by rw [hs]; omega, fun z => by omega⟩
  refine ⟨hd1, ⟨a1, a2, fun e he => a3 e (by omega), fun e f hef hf => a4 e f hef (by omega), fun x hx => ⟨by omega, (a5 x hx).2⟩⟩, fun e he => b1 e (by omega), fun x hx => ?_, fun x hx => ?_, fun e he x hx hsg => ?_, fun e he x u hx hsg hxe hu => ?_, b6, fun e he => b7 e (by omega), fun e he => b8 e (by omega)⟩
  · obtain ⟨h1, w, w1, w2, w3⟩ := b2 x hx
    have h2 := le x hx.1
    refine ⟨by omega, ?_⟩
    by_cases c : x = pa (d - 2)
    · subst c
      rw [lb]
      by_cases m : lo (pa (d - 2)) ≤ lo s
      · exact ⟨w, w1, by omega, w3⟩
      · exact ⟨y, y1, by omega, (b1 (d - 2) (by omega) s so (by omega)).tr y3⟩
    · rw [ln x hx.1 c]; exact ⟨w, w1, w2, w3⟩
  · by_cases c : x = s
    · rw [c, ln s so.1 (fun z => by rw [← z] at bs; omega)]
      exact Or.inr ⟨by omega, hdone⟩
    · rcases b3 x hx with ⟨e, e1, e2⟩ | ⟨z1, z2⟩
      · exact Or.inl ⟨e, by
          apply Classical.byContradiction
          intro q
          exact c (by rw [← e2, ← hs, show e = d - 1 by omega]), e2⟩
      · exact Or.inr ⟨by have := le x hx.1; omega, z2⟩
  · by_cases k : e + 1 < d - 1
    · have h1 := b4 e (by omega) x hx (sg e k x hsg)
      have h2 := le _ (a3 e (by omega)).1
      rw [ln x hx.1 (nb e k x (hsg.2 k))]; omega
    · have ee : e = d - 2 := by omega
      subst ee
      by_cases c : x = pa (d - 2)
      · rw [c]; omega
      · rw [ln x hx.1 c, lb]
        rcases sg2 x hsg with z | z
        · have := b4 (d - 2) (by omega) x hx z; omega
        · have := b4 (d - 1) (by omega) x hx z
          rw [hs] at this; omega
  · have h2 := le _ (a3 e (by omega)).1
    by_cases k : e + 1 < d - 1
    · have h1 := b5 e (by omega) x u hx (sg e k x hsg) hxe hu
      omega
    · have ee : e = d - 2 := by omega
      subst ee
      rw [lb]
      rcases sg2 x hsg with z | z
      · have := b5 (d - 2) (by omega) x u hx z hxe hu; omega
      · have := b5 (d - 1) (by omega) x u hx z hxe hu
        rw [hs] at this; omega
end Tarjan2
