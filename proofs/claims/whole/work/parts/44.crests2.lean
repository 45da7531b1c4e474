/-! ===== the class' Rests: advance ===== -/
def tO (τ : St) (i : Nat) (x : Int) : Int := τ 32 i x.toNat
def tL (τ : St) (i : Nat) (x : Int) : Int := τ 33 i x.toNat
def tY (τ : St) (i : Nat) (x : Int) : Int := τ 28 i x.toNat
def ARR (V : Vy) (M : Int) (i : Nat) (τ : St) (d o : Nat) : Prop := (∀ a : Nat, a < o → Op V (tO τ i) (tY τ i) (τ 36 i a)) ∧ (∀ a b : Nat, a < b → b < o → tO τ i (τ 36 i a) < tO τ i (τ 36 i b)) ∧ (∀ x, Op V (tO τ i) (tY τ i) x → ∃ a : Nat, a < o ∧ τ 36 i a = x) ∧ τ 5 i 11 = d ∧ τ 5 i 12 = o ∧ τ 5 i 0 + o ≤ τ 5 i 13 ∧ d ≤ τ 5 i 13 ∧ τ 5 i 13 = (cnt (fun k => isSt V (k : Int) ∧ τ 32 i k ≠ 0) 1024 : Nat) ∧ (∀ x, Op V (tO τ i) (tY τ i) x → 0 ≤ τ 34 i x.toNat ∧ τ 34 i x.toNat ≤ M)
def TI (V : Vy) (mo ta : Nat → Int) (M : Int) (i : Nat) (τ : St) (d o : Nat) : Prop := JA V (tO τ i) (hm τ i) (tY τ i) (τ 35 i) d (τ 5 i 13) ∧ JB V (tO τ i) (tL τ i) (tY τ i) (xE V mo ta M (τ 34 i)) (τ 35 i) d ∧ JC V (tO τ i) (hm τ i) (tY τ i) (xE V mo ta M (τ 34 i)) (τ 5 i 0) ∧ KK V (hm τ i) (tY τ i) (τ 5 i 0) ∧ ARR V M i τ d o
def mu (i : Nat) (τ : St) (d : Nat) : Int := 42 * (1024 - τ 5 i 13) + sm (fun e => 41 - τ 34 i (τ 35 i e).toNat) d
section CR2
variable {i j : Nat} {σ : St} {Q : Res → St → Prop} {V : Vy} {s t : Int} {mo ta : Nat → Int} {M : Int}
theorem ne_nat {x y : Int} (hx : isSt V x) (hy : isSt V y) (h : x ≠ y) : x.toNat ≠ y.toNat := fun z => h (by have := hx.1.1; have := hy.1.1; omega)
theorem TI.en {d o : Nat} (h : TI V mo ta M i σ d o) : 0 ≤ σ 5 i 13 ∧ σ 5 i 13 ≤ 1024 ∧ 0 ≤ σ 5 i 0 ∧ (o : Int) ≤ 1024 ∧ (d : Int) ≤ 1024 := by
  obtain ⟨-, -, -, h4, -, -, -, -, -, h6, h7, h8, -⟩ := h
  have := cnt_bd (fun k => isSt V (k : Int) ∧ σ 32 i k ≠ 0) 1024
  have := h4.2.2.2
  omega
theorem TI.en_lt {d o : Nat} (hV : VOK V) (h : TI V mo ta M i σ d o) (ht : isSt V t) (h0 : σ 32 i t.toNat = 0) : σ 5 i 13 < 1024 := by
  obtain ⟨-, -, -, h4, -, -, -, -, -, h6, h7, h8, -⟩ := h
  have hb := st_bd hV ht
  have := cnt_lt (P := fun k => isSt V (k : Int) ∧ σ 32 i k ≠ 0) (Q := fun _ => True) (m := t.toNat) (n := 1024) (by omega) (fun _ _ _ => trivial) trivial (fun z => z.2 h0)
  have := cnt_bd (fun _ => True) 1024
  omega
theorem JB.xc {od lo oy : Int → Int} {xe xe' : Int → Int → Prop} {pa : Nat → Int} {d : Nat} (h : JB V od lo oy xe pa d) (hp : ∀ e, e < d → isSt V (pa e)) (hx : ∀ x u, isSt V x → (xe' x u ↔ xe x u)) : JB V od lo oy xe' pa d := by
  obtain ⟨b1, b2, b3, b4, b5, b6, b7, b8⟩ := h
  refine ⟨b1, b2, fun x hx' => ?_, b4, fun e he x t hx' hs hxe => b5 e he x t hx' hs ((hx x t hx'.1).mp hxe), fun x t hx' hxe => b6 x t hx' ((hx x t hx'.1).mp hxe), fun e he x t hx' hlt hxe => b7 e he x t hx' hlt ((hx x t hx'.1).mp hxe), fun e he => (hx _ _ (hp e (by omega))).mpr (b8 e he)⟩
  exact (b3 x hx').imp_right (fun z => ⟨z.1, fun t ht => (z.2 t ht).imp_right (hx x t hx'.1).mpr⟩)
theorem JC.xc {od hy oy : Int → Int} {xe xe' : Int → Int → Prop} {nu : Int} (h : JC V od hy oy xe nu) (hx : ∀ x u, isSt V x → (xe' x u ↔ xe x u)) : JC V od hy oy xe' nu := fun x hx' => (h x hx').cg (Int.le_refl _) (fun t => by rw [hx x t hx'.1]) (fun _ _ => rfl)
theorem TI_enter {d o : Nat} {υ : St} (hV : VOK V) (hI : TI V mo ta M i σ d o) (hM : 0 ≤ M) (ht : isSt V t) (h0 : σ 32 i t.toNat = 0) (hd : d = 0 ∨ E V (σ 35 i (d - 1)) t) (u32 : ∀ x, υ 32 i x = if x = t.toNat then σ 5 i 13 + 1 else σ 32 i x) (u33 : ∀ x, υ 33 i x = if x = t.toNat then σ 5 i 13 + 1 else σ 33 i x) (u34 : υ 34 i t.toNat = 0) (u34' : ∀ x, Op V (tO σ i) (tY σ i) x → 0 ≤ υ 34 i x.toNat ∧ υ 34 i x.toNat ≤ M) (hX : ∀ x u, isSt V x → x ≠ t → (xE V mo ta M (υ 34 i) x u ↔ xE V mo ta M (σ 34 i) x u ∨ (0 < d ∧ x = σ 35 i (d - 1) ∧ u = t))) (u35 : ∀ x, υ 35 i x = if x = (σ 5 i 11).toNat then t else σ 35 i x) (u36 : ∀ x, υ 36 i x = if x = (σ 5 i 12).toNat then t else σ 36 i x) (u2 : υ 27 i = σ 27 i ∧ υ 28 i = σ 28 i) (u5 : υ 5 i 0 = σ 5 i 0 ∧ υ 5 i 11 = σ 5 i 11 + 1 ∧ υ 5 i 12 = σ 5 i 12 + 1 ∧ υ 5 i 13 = σ 5 i 13 + 1) : TI V mo ta M i υ (d + 1) (o + 1) := by
  have hen := hI.en
  obtain ⟨hA, hB, hC, hK, r1, r2, r3, r4, r5, r6, r7, r8, r9⟩ := hI
  have htb := st_bd hV ht
  rw [r4, Int.toNat_natCast] at u35
  rw [r5, Int.toNat_natCast] at u36
  have eh : hm υ i = hm σ i := by funext x; unfold hm; rw [u2.1]
  have ey : tY υ i = tY σ i := by funext x; unfold tY; rw [u2.2]
  have ho : ∀ x, isSt V x → tO υ i x = if x = t then σ 5 i 13 + 1 else tO σ i x := fun x hx => by
    unfold tO
    rw [u32]
    by_cases c : x = t
    · rw [if_pos c, if_pos (by rw [c])]
    · rw [if_neg c, if_neg (ne_nat hx ht c)]
  have hl : ∀ x, isSt V x → tL υ i x = if x = t then σ 5 i 13 + 1 else tL σ i x := fun x hx => by
    unfold tL
    rw [u33]
    by_cases c : x = t
    · rw [if_pos c, if_pos (by rw [c])]
    · rw [if_neg c, if_neg (ne_nat hx ht c)]
  have tt := T_enter (od' := tO υ i) (lo' := tL υ i) (pa' := υ 35 i) (xe' := xE V mo ta M (υ 34 i)) hV hA hB hC hen.1 ht h0 hd ho hl (fun e he => by rw [u35, if_neg he]) (by rw [u35, if_pos rfl]) (fun x u hx => by
    by_cases c : x = t
    · refine ⟨fun ⟨k, k1, _⟩ => ?_, fun z => absurd c z.1⟩
      rw [c, u34] at k1; omega
    · rw [hX x u hx c]
      exact ⟨fun z => ⟨c, z⟩, fun z => z.2⟩)
  have opo : ∀ x, Op V (tO υ i) (tY σ i) x → x ≠ t → Op V (tO σ i) (tY σ i) x := fun x hx hn => ⟨hx.1, by have := hx.2.1; rw [ho x hx.1, if_neg hn] at this; exact this, hx.2.2⟩
  have opi : ∀ x, Op V (tO σ i) (tY σ i) x → x ≠ t ∧ tO υ i x = tO σ i x ∧ Op V (tO υ i) (tY σ i) x := fun x hx => by
    have c : x ≠ t := fun z => hx.2.1 (by rw [z]; exact h0)
    have e := ho x hx.1
    rw [if_neg c] at e
    exact ⟨c, e, hx.1, by rw [e]; exact hx.2.1, hx.2.2⟩
  have ot : tO υ i t = σ 5 i 13 + 1 := by rw [ho t ht, if_pos rfl]
  have opt : Op V (tO υ i) (tY σ i) t := ⟨ht, by rw [ot]; omega, ((hA.1 t ht).2.2 h0).1⟩
  unfold TI ARR
  rw [eh, ey, u5.1, u5.2.1, u5.2.2.1, u5.2.2.2]
  refine ⟨tt.1, tt.2.1, tt.2.2, hK, fun a ha => ?_, fun a b hab hb => ?_, fun x hx => ?_, by rw [r4]; push_cast; rfl, by rw [r5]; push_cast; rfl, by push_cast; omega, by push_cast; omega, ?_, fun x hx => ?_⟩
  · rw [u36]
    by_cases c : a = o
    · rw [if_pos c]; exact opt
    · rw [if_neg c]; exact (opi _ (r1 a (by omega))).2.2
  · have e1 := opi _ (r1 a (by omega))
    rw [u36 a, if_neg (by omega), e1.2.1, u36 b]
    by_cases c : b = o
    · rw [if_pos c, ot]
      have := (hA.1 _ (r1 a (by omega)).1).2.1
      omega
    · rw [if_neg c, (opi _ (r1 b (by omega))).2.1]
      exact r2 a b hab (by omega)
  · by_cases c : x = t
    · exact ⟨o, by omega, by rw [u36, if_pos rfl, c]⟩
    · obtain ⟨a, a1, a2⟩ := r3 x (opo x hx c)
      exact ⟨a, by omega, by rw [u36, if_neg (by omega)]; exact a2⟩
  · rw [r8, cnt_add (P := fun k => isSt V (k : Int) ∧ σ 32 i k ≠ 0) (Q := fun k => isSt V (k : Int) ∧ υ 32 i k ≠ 0) (m := t.toNat) (n := 1024) (by omega) (fun k _ hk => by rw [u32, if_neg hk]) ⟨by rw [show ((t.toNat : Nat) : Int) = t by omega]; exact ht, by rw [u32, if_pos rfl]; omega⟩ (fun z => z.2 h0)]
    push_cast; rfl
  · by_cases c : x = t
    · rw [c, u34]; omega
    · exact u34' x (opo x hx c)
theorem TI_34 {d o : Nat} {υ : St} (hI : TI V mo ta M i σ d o) (hF : FR (nmP i s) σ υ) (hX : ∀ x u, isSt V x → (xE V mo ta M (υ 34 i) x u ↔ xE V mo ta M (σ 34 i) x u)) (hb : 0 ≤ υ 34 i s.toNat ∧ υ 34 i s.toNat ≤ M) : TI V mo ta M i υ d o := by
  obtain ⟨hA, hB, hC, hK, r1, r2, r3, r4, r5, r6, r7, r8, r9⟩ := hI
  have e : ∀ c, c ≠ 34 → υ c = σ c := fun c hc => by
    funext a b
    exact hF c a b (fun z => hc z.2.1)
  have eo : tO υ i = tO σ i := by funext x; unfold tO; rw [e 32 (by omega)]
  have el : tL υ i = tL σ i := by funext x; unfold tL; rw [e 33 (by omega)]
  have ey : tY υ i = tY σ i := by funext x; unfold tY; rw [e 28 (by omega)]
  have eh : hm υ i = hm σ i := by funext x; unfold hm; rw [e 27 (by omega)]
  unfold TI ARR
  rw [eo, el, ey, eh, e 5 (by omega), e 35 (by omega), e 36 (by omega), e 32 (by omega)]
  refine ⟨hA, hB.xc (fun e he => (hA.2.2.1 e he).1) hX, hC.xc hX, hK, r1, r2, r3, r4, r5, r6, r7, r8, fun x hx => ?_⟩
  by_cases c : x.toNat = s.toNat
  · rw [c]; exact hb
  · rw [hF 34 i x.toNat (fun z => c z.2.2)]; exact r9 x hx
theorem TI.top {d o : Nat} (h : TI V mo ta M i σ d o) (hd : 0 < d) : Op V (tO σ i) (tY σ i) (σ 35 i (d - 1)) ∧ (∀ e, e < d - 1 → σ 35 i e ≠ σ 35 i (d - 1)) := by
  refine ⟨h.1.2.2.1 _ (by omega), fun e he z => ?_⟩
  have := h.1.2.2.2.1 e (d - 1) (by omega) (by omega)
  rw [z] at this; omega
/-- mu, with what lies below the top apart -/
theorem mu_top {d : Nat} (hd : 0 < d) : mu i σ d = 42 * (1024 - σ 5 i 13) + sm (fun e => 41 - σ 34 i (σ 35 i e).toNat) (d - 1) + (41 - σ 34 i (σ 35 i (d - 1)).toNat) := by
  unfold mu
  obtain ⟨d, rfl⟩ : ∃ e, d = e + 1 := ⟨d - 1, by omega⟩
  rw [sm]
  simp only [Nat.add_sub_cancel]
  omega
end CR2
