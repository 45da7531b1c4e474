/-! ===== fields and arrays ===== -/
/-- a field's link from a class: the class number and the field's place -/
def FL (own : String) (idx ci k : Nat) : Prop := ∃ (C : String) (T : u_T) (N : Nat), classes[ci]? = some (C, T, N) ∧ k < N ∧ N = nf ci ∧ Cond.fieldLink own idx (T k).1 (T k).2.1 (T k).2.2.1 ∈ TB
def FP (own : String) (idx ci k : Nat) (ty : FieldType) : Prop := ∃ (C : String) (T : u_T) (N : Nat), classes[ci]? = some (C, T, N) ∧ k < N ∧ N = nf ci ∧ Cond.fieldLink own idx (T k).1 (T k).2.1 (T k).2.2.1 ∈ TB ∧ (T k).2.2.2 = false ∧ parseFieldDescriptor (T k).2.2.1 = some ty
theorem FP.l {own : String} {idx ci k : Nat} {ty : FieldType} (h : FP own idx ci k ty) : FL own idx ci k := by
  obtain ⟨C, T, N, h1, h2, h3, h4, -⟩ := h
  exact ⟨C, T, N, h1, h2, h3, h4⟩
theorem ww_at {G : GG} {σ : St} {q : Nat × Nat} (h : q ∈ G.2.2.2.1) : ∃ k : Nat, G.2.2.2.1[k]? = some q ∧ (ww G σ)[k]? = some (G.2.2.1 q.1 q.2, ce G σ q) := by
  obtain ⟨k, hk⟩ := List.getElem?_of_mem h
  exact ⟨k, hk, by rw [ww, List.getElem?_map, hk]; rfl⟩
theorem ce_obj {G : GG} {σ : St} {c i ci : Nat} (h : oc c = some ci) : ce G σ (c, i) = .inr (ci, (List.range (nf ci)).map (fv G σ c i)) := by
  show (match oc c with | some ci => _ | none => _) = _
  rw [h]
theorem ce_arr {G : GG} {σ : St} {c i : Nat} (h : oc c = none) : ce G σ (c, i) = .inl (G.2.1 (ak c), al c, .inl (fun j => Int32.ofInt (σ c i j))) := by
  show (match oc c with | some ci => _ | none => _) = _
  rw [h]
theorem fs_at {G : GG} {σ : St} {c i n k : Nat} (h : k < n) : ((List.range n).map (fv G σ c i))[k]? = some (fv G σ c i k) := by
  rw [List.getElem?_map, List.getElem?_range h]; rfl
/-- a field or an element is written: the world at the new heap -/
theorem ww_set {G : GG} {A : Nat → Prop} {σ σ' : St} {k0 : Nat} {q : Nat × Nat} (hD : va_D A (ww G σ)) (hk : G.2.2.2.1[k0]? = some q) (ho : ∀ q', q' ≠ q → ce G σ' q' = ce G σ q') : (ww G σ).set k0 (G.2.2.1 q.1 q.2, ce G σ' q) = ww G σ' := by
  apply List.ext_getElem?
  intro j
  rw [List.getElem?_set]
  have hlen : (ww G σ).length = G.2.2.2.1.length := by rw [ww, List.length_map]
  by_cases hj : k0 = j
  · subst hj
    rw [if_pos rfl, hlen, if_pos (List.getElem?_eq_some_iff.mp hk).1, ww, List.getElem?_map, hk]
    rfl
  · rw [if_neg hj, ww, ww, List.getElem?_map, List.getElem?_map]
    cases hq : G.2.2.2.1[j]? with
    | none => rfl
    | some q' =>
      have hne : q' ≠ q := by
        intro e
        subst e
        refine hj (hD.1 k0 j (G.2.2.1 q'.1 q'.2, ce G σ q') (G.2.2.1 q'.1 q'.2, ce G σ q') ?_ ?_ rfl)
        · rw [ww, List.getElem?_map, hk]; rfl
        · rw [ww, List.getElem?_map, hq]; rfl
      show some (G.2.2.1 q'.1 q'.2, ce G σ q') = some (G.2.2.1 q'.1 q'.2, ce G σ' q')
      rw [ho q' hne]
theorem ce_up_ne {G : GG} {σ : St} {c i j : Nat} {x : Int} (q' : Nat × Nat) (h : q' ≠ (c, i)) : ce G (up σ c i j x) q' = ce G σ q' := by
  have e : ∀ k, up σ c i j x q'.1 q'.2 k = σ q'.1 q'.2 k := by
    intro k
    unfold up
    rw [if_neg]
    rintro ⟨h1, h2, -⟩
    exact h (Prod.ext h1 h2)
  unfold ce
  have e1 : (fv G (up σ c i j x) q'.1 q'.2) = (fv G σ q'.1 q'.2) := by
    funext k
    unfold fv
    rw [e k]
  rw [e1]
  simp only [e]
theorem RO.up {σ : St} (h : RO σ) {c i j : Nat} {x : Int} (hx : in64 x) (hx2 : lg c j = false → in32 x) : RO (up σ c i j x) := by
  intro c' i' k'
  unfold Jvm.Pilot.CCustomValleyLaw_law_r4824_d123a9.up
  split
  · rename_i hh
    obtain ⟨rfl, rfl, rfl⟩ := hh
    exact ⟨hx, hx2⟩
  · exact h c' i' k'
theorem in64_32 {x : Int} (h : in32 x) : in64 x := by unfold in32 at h; unfold in64; omega
theorem cls_tab (ci : Nat) {C : String} {T : u_T} {N : Nat} (h : classes[ci]? = some (C, T, N)) : (∀ w ∈ u_ws C T N, w ∈ TB) ∧ (∃ ty0 : Nat → FieldType, ∀ k, k < N → parseFieldDescriptor (T k).2.2.1 = some (ty0 k)) ∧ ∀ a, a < N → ∀ b, b < N → a ≠ b → (T a).2.1 ≠ (T b).2.1 := by
  match ci, h with
  | 0, h => cases h; exact ⟨ci_0, ⟨tyX0, tyX0_ok⟩, nmX0⟩
  | 1, h => cases h; exact ⟨ci_1, ⟨tyX1, tyX1_ok⟩, nmX1⟩
  | 2, h => cases h; exact ⟨ci_2, ⟨tyX2, tyX2_ok⟩, nmX2⟩
  | 3, h => cases h; exact ⟨ci_3, ⟨tyX3, tyX3_ok⟩, nmX3⟩
  | 4, h => cases h; exact ⟨ci_4, ⟨tyX4, tyX4_ok⟩, nmX4⟩
  | 5, h => cases h; exact ⟨ci_5, ⟨tyX5, tyX5_ok⟩, nmX5⟩
  | 6, h => cases h; exact ⟨ci_6, ⟨tyX6, tyX6_ok⟩, nmX6⟩
  | 7, h => cases h; exact ⟨ci_7, ⟨tyX7, tyX7_ok⟩, nmX7⟩
  | 8, h => cases h; exact ⟨ci_8, ⟨tyX8, tyX8_ok⟩, nmX8⟩
  | 9, h => cases h; exact ⟨ci_9, ⟨tyX9, tyX9_ok⟩, nmX9⟩
  | 10, h => cases h; exact ⟨ci_10, ⟨tyX10, tyX10_ok⟩, nmX10⟩
  | 11, h => cases h; exact ⟨ci_11, ⟨tyX11, tyX11_ok⟩, nmX11⟩
  | 12, h => cases h; exact ⟨ci_12, ⟨tyX12, tyX12_ok⟩, nmX12⟩
  | 13, h => cases h; exact ⟨ci_13, ⟨tyX13, tyX13_ok⟩, nmX13⟩
  | _ + 14, h => simp [classes] at h
theorem fv_ref {G : GG} {σ : St} {c i k : Nat} {q : Nat × Nat} (h13 : c ≠ 13) (hr : fr c k i = some q) : fv G σ c i k = .ref (G.2.2.1 q.1 q.2) := by
  unfold fv; rw [if_neg h13, hr]
theorem fv_int {G : GG} {σ : St} {c i k : Nat} (h13 : c ≠ 13) (hr : fr c k i = none) (hg : lg c k = false) : fv G σ c i k = .int (Int32.ofInt (σ c i k)) := by
  unfold fv; rw [if_neg h13, hr]; simp [hg]
theorem fv_long {G : GG} {σ : St} {c i k : Nat} (h13 : c ≠ 13) (hr : fr c k i = none) (hg : lg c k = true) : fv G σ c i k = .long (Int64.ofInt (σ c i k)) := by
  unfold fv; rw [if_neg h13, hr]; simp [hg]
theorem fv_up {G : GG} {σ : St} {c i k : Nat} {x : Int} {v : Value} (n : Nat) (hv : fv G (up σ c i k x) c i k = v) : ((List.range n).map (fv G σ c i)).set k v = (List.range n).map (fv G (up σ c i k x) c i) := by
  apply List.ext_getElem?
  intro j
  rw [List.getElem?_set, List.getElem?_map, List.getElem?_map, List.length_map, List.length_range]
  by_cases hj : k = j
  · subst hj
    rw [if_pos rfl]
    by_cases hk : k < n
    · rw [if_pos hk, List.getElem?_range hk, ← hv]; rfl
    · rw [if_neg hk, List.getElem?_eq_none (by simp; omega)]; rfl
  · rw [if_neg hj]
    by_cases hk : j < n
    · rw [List.getElem?_range hk]
      show some _ = some _
      unfold fv
      rw [show up σ c i k x c i j = σ c i j from up_j (fun e => hj e.symm)]
    · rw [List.getElem?_eq_none (by simp; omega)]; rfl
section Mem
variable {M : MI} {pc : Nat} {als ast : List AV} {σ : St} {Q : Res → St → Prop}
theorem wp_getR {idx ci k c0 i0 : Nat} {q : Nat × Nat} (hd : decode M.2.1 pc = .ok (.getfield idx, 3)) (hf : FL M.1.cls idx ci k) (ho : oc c0 = some ci) (hr : fr c0 k i0 = some q) (kk : WP M (pc + 3) als (.inr (.inr q) :: ast) σ Q) (h1 : c0 < 1000 := by decide) (h13 : c0 ≠ 13 := by decide) : WP M pc als (vR c0 i0 :: ast) σ Q := by
  intro G A p l e R s mid args below meth c cells slots Z hC hX hE H locs ls st hW hl hs
  obtain ⟨st1, rfl, hm, hs1⟩ := rs_R hs
  have hm : (c0, i0) ∈ G.2.2.2.1 := hm.resolve_right (by omega)
  obtain ⟨C, T, N, f1, f2, f3, f4⟩ := hf
  obtain ⟨k0, hk0, hk1⟩ := ww_at (σ := σ) hm
  rw [ce_obj ho] at hk1
  refine va_get hC.1 hC.2.1 hC.2.2.2.2.1 (cls_tab ci f1).1 hC.2.2.2.1 hC.2.2.2.2.2.2.2.1 hW.1 k0 hk1 f1 k f2 (hC.2.2.2.2.1 _ f4) (fun x h => h) (fs_at (by omega)) hd ?_
  rw [fv_ref h13 hr]
  exact kk G A p l e R s mid args below meth c cells slots Z hC hX hE H locs ls _ hW hl ⟨⟨rfl, Or.inl (hW.2.2.2.2 _ hm k q hr)⟩, hs1⟩
theorem wp_getI {idx ci k c0 i0 : Nat} (hd : decode M.2.1 pc = .ok (.getfield idx, 3)) (hf : FL M.1.cls idx ci k) (ho : oc c0 = some ci) (hr : fr c0 k i0 = none) (hg : lg c0 k = false) (kk : WP M (pc + 3) als (vI (σ c0 i0 k) :: ast) σ Q) (h1 : c0 < 1000 := by decide) (h13 : c0 ≠ 13 := by decide) : WP M pc als (vR c0 i0 :: ast) σ Q := by
  intro G A p l e R s mid args below meth c cells slots Z hC hX hE H locs ls st hW hl hs
  obtain ⟨st1, rfl, hm, hs1⟩ := rs_R hs
  have hm : (c0, i0) ∈ G.2.2.2.1 := hm.resolve_right (by omega)
  obtain ⟨C, T, N, f1, f2, f3, f4⟩ := hf
  obtain ⟨k0, hk0, hk1⟩ := ww_at (σ := σ) hm
  rw [ce_obj ho] at hk1
  refine va_get hC.1 hC.2.1 hC.2.2.2.2.1 (cls_tab ci f1).1 hC.2.2.2.1 hC.2.2.2.2.2.2.2.1 hW.1 k0 hk1 f1 k f2 (hC.2.2.2.2.1 _ f4) (fun x h => h) (fs_at (by omega)) hd ?_
  rw [fv_int h13 hr hg]
  have hx := (hW.2.2.2.1 c0 i0 k).2 hg
  exact kk G A p l e R s mid args below meth c cells slots Z hC hX hE H locs ls _ hW hl ⟨⟨_, rfl, i32_of hx.1 hx.2⟩, hs1⟩
theorem wp_getL {idx ci k c0 i0 : Nat} (hd : decode M.2.1 pc = .ok (.getfield idx, 3)) (hf : FL M.1.cls idx ci k) (ho : oc c0 = some ci) (hr : fr c0 k i0 = none) (hg : lg c0 k = true) (kk : WP M (pc + 3) als (vL (σ c0 i0 k) :: ast) σ Q) (h1 : c0 < 1000 := by decide) (h13 : c0 ≠ 13 := by decide) : WP M pc als (vR c0 i0 :: ast) σ Q := by
  intro G A p l e R s mid args below meth c cells slots Z hC hX hE H locs ls st hW hl hs
  obtain ⟨st1, rfl, hm, hs1⟩ := rs_R hs
  have hm : (c0, i0) ∈ G.2.2.2.1 := hm.resolve_right (by omega)
  obtain ⟨C, T, N, f1, f2, f3, f4⟩ := hf
  obtain ⟨k0, hk0, hk1⟩ := ww_at (σ := σ) hm
  rw [ce_obj ho] at hk1
  refine va_get hC.1 hC.2.1 hC.2.2.2.2.1 (cls_tab ci f1).1 hC.2.2.2.1 hC.2.2.2.2.2.2.2.1 hW.1 k0 hk1 f1 k f2 (hC.2.2.2.2.1 _ f4) (fun x h => h) (fs_at (by omega)) hd ?_
  rw [fv_long h13 hr hg]
  have hx := (hW.2.2.2.1 c0 i0 k).1
  exact kk G A p l e R s mid args below meth c cells slots Z hC hX hE H locs ls _ hW hl ⟨⟨_, rfl, i64_of hx.1 hx.2⟩, hs1⟩
/-- the common part of the three stores into a field -/
theorem wp_putG {idx ci k c0 i0 : Nat} {ty : FieldType} {x : Int} {a : AV} (hd : decode M.2.1 pc = .ok (.putfield idx, 3)) (hf : FP M.1.cls idx ci k ty) (ho : oc c0 = some ci) (h1 : c0 < 1000)
    (hv : ∀ (G : GG) (v : Value), rv G v a → fv G (up σ c0 i0 k x) c0 i0 k = v ∧ narrow ty v = v ∧ fits ty v = true ∧ in64 x ∧ (lg c0 k = false → in32 x)) (kk : WP M (pc + 3) als ast (up σ c0 i0 k x) Q) : WP M pc als (a :: vR c0 i0 :: ast) σ Q := by
  intro G A p l e R s mid args below meth c cells slots Z hC hX hE H locs ls st hW hl hs
  obtain ⟨v, st0, rfl, hv0, hs0⟩ := rs_cons hs
  obtain ⟨st1, rfl, hm, hs1⟩ := rs_R hs0
  have hm : (c0, i0) ∈ G.2.2.2.1 := hm.resolve_right (by omega)
  obtain ⟨C, T, N, f1, f2, f3, f4, f5, f6⟩ := hf
  obtain ⟨k0, hk0, hk1⟩ := ww_at (σ := σ) hm
  rw [ce_obj ho] at hk1
  obtain ⟨t1, ⟨ty0, t2⟩, t3⟩ := cls_tab ci f1
  obtain ⟨e1, e2, e3, e4, e5⟩ := hv G v hv0
  refine va_put hC.1 hC.2.1 hC.2.2.2.2.1 t1 ty0 t2 t3 hC.2.2.2.1 hC.2.2.2.2.2.2.2.1 hW.1 hW.2.1 hW.2.2.1 k0 hk1 f1 k f2 (hC.2.2.2.2.1 _ f4) (fun x h => h) f5 f6 e2 e3 (by simp; omega) hd (fun H1 locs1 hP1 hD1 hS1 => ?_)
  have ew : (ww G σ).set k0 (G.2.2.1 c0 i0, .inr (ci, ((List.range (nf ci)).map (fv G σ c0 i0)).set k v)) = ww G (up σ c0 i0 k x) := by
    rw [fv_up _ e1, ← ce_obj (G := G) (σ := up σ c0 i0 k x) (i := i0) ho]
    exact ww_set hW.2.1 hk0 (fun q' h => ce_up_ne q' h)
  rw [ew] at hP1 hD1
  exact kk G A p l e R s mid args below meth c cells slots Z hC hX hE H1 locs1 ls _ ⟨hP1, hD1, hS1, hW.2.2.2.1.up e4 e5, hW.2.2.2.2⟩ hl hs1
theorem wp_putI {idx ci k c0 i0 : Nat} {x : Int} (hd : decode M.2.1 pc = .ok (.putfield idx, 3)) (hf : FP M.1.cls idx ci k .int) (ho : oc c0 = some ci) (hr : fr c0 k i0 = none) (hg : lg c0 k = false) (kk : WP M (pc + 3) als ast (up σ c0 i0 k x) Q) (h1 : c0 < 1000 := by decide) (h13 : c0 ≠ 13 := by decide) : WP M pc als (vI x :: vR c0 i0 :: ast) σ Q := by
  refine wp_putG hd hf ho h1 (fun G v hv => ?_) kk
  obtain ⟨y, rfl, rfl⟩ := hv
  refine ⟨?_, rfl, rfl, in64_32 (i32_in y), fun _ => i32_in y⟩
  rw [fv_int h13 hr hg, up_s, Int32.ofInt_toInt]
theorem wp_putZ {idx ci k c0 i0 : Nat} {x : Int} (hd : decode M.2.1 pc = .ok (.putfield idx, 3)) (hf : FP M.1.cls idx ci k .boolean) (ho : oc c0 = some ci) (hr : fr c0 k i0 = none) (hg : lg c0 k = false) (hx : x = 0 ∨ x = 1) (kk : WP M (pc + 3) als ast (up σ c0 i0 k x) Q) (h1 : c0 < 1000 := by decide) (h13 : c0 ≠ 13 := by decide) : WP M pc als (vI x :: vR c0 i0 :: ast) σ Q := by
  refine wp_putG hd hf ho h1 (fun G v hv => ?_) kk
  obtain ⟨y, rfl, rfl⟩ := hv
  have hy : y = 0 ∨ y = 1 := hx.imp (fun h => Int32.toInt_inj.mp h) (fun h => Int32.toInt_inj.mp h)
  refine ⟨?_, by rcases hy with rfl | rfl <;> rfl, by rcases hy with rfl | rfl <;> rfl, in64_32 (i32_in y), fun _ => i32_in y⟩
  rw [fv_int h13 hr hg, up_s, Int32.ofInt_toInt]
theorem wp_putL {idx ci k c0 i0 : Nat} {x : Int} (hd : decode M.2.1 pc = .ok (.putfield idx, 3)) (hf : FP M.1.cls idx ci k .long) (ho : oc c0 = some ci) (hr : fr c0 k i0 = none) (hg : lg c0 k = true) (kk : WP M (pc + 3) als ast (up σ c0 i0 k x) Q) (h1 : c0 < 1000 := by decide) (h13 : c0 ≠ 13 := by decide) : WP M pc als (vL x :: vR c0 i0 :: ast) σ Q := by
  refine wp_putG hd hf ho h1 (fun G v hv => ?_) kk
  obtain ⟨y, rfl, rfl⟩ := hv
  refine ⟨?_, rfl, rfl, ⟨y.le_toInt, y.toInt_lt⟩, fun h => by rw [hg] at h; cases h⟩
  rw [fv_long h13 hr hg, up_s, Int64.ofInt_toInt]
theorem vp_in_of' {y : Int32} {n : Nat} (h1 : 0 ≤ y.toInt) (h2 : y.toInt < (n : Int)) : vp_in y n := vp_in_iff.mpr ⟨h1, h2⟩
theorem clamp_e (y : Int32) : y.toNatClampNeg = y.toInt.toNat := rfl
theorem lg_arr {c k : Nat} (h : oc c = none) (h1 : c < 1000) : lg c k = false := by
  unfold lg
  split
  · cases h
  · cases h
  · rfl
theorem wp_iaload {c0 i0 : Nat} {x : Int} (hd : decode M.2.1 pc = .ok (.iaload, 1)) (ho : oc c0 = none) (hk : ak c0 = 0) (h2 : 0 ≤ x) (h3 : x < (al c0 : Int)) (kk : WP M (pc + 1) als (vI (σ c0 i0 x.toNat) :: ast) σ Q) (h1 : c0 < 1000 := by decide) : WP M pc als (vI x :: vR c0 i0 :: ast) σ Q := by
  intro G A p l e R s mid args below meth c cells slots Z hC hX hE H locs ls st hW hl hs
  obtain ⟨y, st0, rfl, rfl, hs0⟩ := rs_I hs
  obtain ⟨st1, rfl, hm, hs1⟩ := rs_R hs0
  have hm : (c0, i0) ∈ G.2.2.2.1 := hm.resolve_right (by omega)
  obtain ⟨k0, hk0, hk1⟩ := ww_at (σ := σ) hm
  rw [ce_arr ho, hk] at hk1
  refine va_iald hC.1 hC.2.1 hC.2.2.2.2.2.2.2.1 hW.1 k0 0 hk1 rfl (vp_in_of' h2 h3) hd ?_
  have hx := (hW.2.2.2.1 c0 i0 y.toInt.toNat).2 (lg_arr ho h1)
  exact kk G A p l e R s mid args below meth c cells slots Z hC hX hE H locs ls _ hW hl ⟨⟨_, rfl, by rw [clamp_e]; exact i32_of hx.1 hx.2⟩, hs1⟩
theorem wp_baload {c0 i0 : Nat} {x : Int} (hd : decode M.2.1 pc = .ok (.baload, 1)) (ho : oc c0 = none) (hk : ak c0 = 1) (h2 : 0 ≤ x) (h3 : x < (al c0 : Int)) (kk : WP M (pc + 1) als (vI (σ c0 i0 x.toNat) :: ast) σ Q) (h1 : c0 < 1000 := by decide) : WP M pc als (vI x :: vR c0 i0 :: ast) σ Q := by
  intro G A p l e R s mid args below meth c cells slots Z hC hX hE H locs ls st hW hl hs
  obtain ⟨y, st0, rfl, rfl, hs0⟩ := rs_I hs
  obtain ⟨st1, rfl, hm, hs1⟩ := rs_R hs0
  have hm : (c0, i0) ∈ G.2.2.2.1 := hm.resolve_right (by omega)
  obtain ⟨k0, hk0, hk1⟩ := ww_at (σ := σ) hm
  rw [ce_arr ho, hk] at hk1
  refine va_bald hC.1 hC.2.1 hC.2.2.2.2.2.2.2.1 hW.1 k0 1 hk1 rfl (vp_in_of' h2 h3) hd ?_
  have hx := (hW.2.2.2.1 c0 i0 y.toInt.toNat).2 (lg_arr ho h1)
  exact kk G A p l e R s mid args below meth c cells slots Z hC hX hE H locs ls _ hW hl ⟨⟨_, rfl, by rw [clamp_e]; exact i32_of hx.1 hx.2⟩, hs1⟩
theorem wp_zaload {c0 i0 : Nat} {x : Int} (hd : decode M.2.1 pc = .ok (.baload, 1)) (ho : oc c0 = none) (hk : ak c0 = 2) (h2 : 0 ≤ x) (h3 : x < (al c0 : Int)) (kk : WP M (pc + 1) als (vI (σ c0 i0 x.toNat) :: ast) σ Q) (h1 : c0 < 1000 := by decide) : WP M pc als (vI x :: vR c0 i0 :: ast) σ Q := by
  intro G A p l e R s mid args below meth c cells slots Z hC hX hE H locs ls st hW hl hs
  obtain ⟨y, st0, rfl, rfl, hs0⟩ := rs_I hs
  obtain ⟨st1, rfl, hm, hs1⟩ := rs_R hs0
  have hm : (c0, i0) ∈ G.2.2.2.1 := hm.resolve_right (by omega)
  obtain ⟨k0, hk0, hk1⟩ := ww_at (σ := σ) hm
  rw [ce_arr ho, hk] at hk1
  refine va_zald hC.1 hC.2.1 hC.2.2.2.2.2.2.2.1 hW.1 k0 2 hk1 rfl (vp_in_of' h2 h3) hd ?_
  have hx := (hW.2.2.2.1 c0 i0 y.toInt.toNat).2 (lg_arr ho h1)
  exact kk G A p l e R s mid args below meth c cells slots Z hC hX hE H locs ls _ hW hl ⟨⟨_, rfl, by rw [clamp_e]; exact i32_of hx.1 hx.2⟩, hs1⟩
theorem arr_up {σ : St} {c i j : Nat} {x : Int} {y : Int32} (h : Int32.ofInt x = y) : upd (fun j => Int32.ofInt (σ c i j)) j y = fun k => Int32.ofInt (up σ c i j x c i k) := by
  funext k
  unfold upd
  by_cases hk : k = j
  · subst hk
    rw [if_pos rfl, up_s, h]
  · rw [if_neg hk, up_j hk]
theorem ww_arr {G : GG} {A : Nat → Prop} {σ : St} {k0 c0 i0 j : Nat} {x : Int} {y : Int32} (hD : va_D A (ww G σ)) (hk0 : G.2.2.2.1[k0]? = some (c0, i0)) (ho : oc c0 = none) (h : Int32.ofInt x = y) :
    (ww G σ).set k0 (G.2.2.1 c0 i0, .inl (G.2.1 (ak c0), al c0, .inl (upd (fun j => Int32.ofInt (σ c0 i0 j)) j y))) = ww G (up σ c0 i0 j x) := by
  rw [arr_up h, ← ce_arr (G := G) (σ := up σ c0 i0 j x) (i := i0) ho]
  exact ww_set hD hk0 (fun q' h => ce_up_ne q' h)
theorem wp_iastore {c0 i0 : Nat} {x z : Int} (hd : decode M.2.1 pc = .ok (.iastore, 1)) (ho : oc c0 = none) (hk : ak c0 = 0) (h2 : 0 ≤ x) (h3 : x < (al c0 : Int)) (kk : WP M (pc + 1) als ast (up σ c0 i0 x.toNat z) Q) (h1 : c0 < 1000 := by decide) : WP M pc als (vI z :: vI x :: vR c0 i0 :: ast) σ Q := by
  intro G A p l e R s mid args below meth c cells slots Z hC hX hE H locs ls st hW hl hs
  obtain ⟨w, stw, rfl, rfl, hsw⟩ := rs_I hs
  obtain ⟨y, st0, rfl, rfl, hs0⟩ := rs_I hsw
  obtain ⟨st1, rfl, hm, hs1⟩ := rs_R hs0
  have hm : (c0, i0) ∈ G.2.2.2.1 := hm.resolve_right (by omega)
  obtain ⟨k0, hk0, hk1⟩ := ww_at (σ := σ) hm
  have hk2 := hk1
  rw [ce_arr ho, hk] at hk1
  refine va_iast hC.1 hC.2.1 hC.2.2.2.2.2.2.2.1 hW.1 hW.2.1 hW.2.2.1 k0 0 hk1 rfl (vp_in_of' h2 h3) hd (fun H1 locs1 hP1 hD1 hS1 => ?_)
  have ew := ww_arr (x := w.toInt) (j := y.toInt.toNat) hW.2.1 hk0 ho (Int32.ofInt_toInt w)
  rw [hk] at ew
  rw [clamp_e, ew] at hP1 hD1
  exact kk G A p l e R s mid args below meth c cells slots Z hC hX hE H1 locs1 ls _ ⟨hP1, hD1, hS1, hW.2.2.2.1.up (in64_32 (i32_in w)) (fun _ => i32_in w), hW.2.2.2.2⟩ hl hs1
theorem wp_bastore {c0 i0 : Nat} {x z : Int} (hd : decode M.2.1 pc = .ok (.bastore, 1)) (ho : oc c0 = none) (hk : ak c0 = 1) (h2 : 0 ≤ x) (h3 : x < (al c0 : Int)) (kk : WP M (pc + 1) als ast (up σ c0 i0 x.toNat (i2bI z)) Q) (h1 : c0 < 1000 := by decide) : WP M pc als (vI z :: vI x :: vR c0 i0 :: ast) σ Q := by
  intro G A p l e R s mid args below meth c cells slots Z hC hX hE H locs ls st hW hl hs
  obtain ⟨w, stw, rfl, rfl, hsw⟩ := rs_I hs
  obtain ⟨y, st0, rfl, rfl, hs0⟩ := rs_I hsw
  obtain ⟨st1, rfl, hm, hs1⟩ := rs_R hs0
  have hm : (c0, i0) ∈ G.2.2.2.1 := hm.resolve_right (by omega)
  obtain ⟨k0, hk0, hk1⟩ := ww_at (σ := σ) hm
  rw [ce_arr ho, hk] at hk1
  refine va_bast hC.1 hC.2.1 hC.2.2.2.2.2.2.2.1 hW.1 hW.2.1 hW.2.2.1 k0 1 hk1 rfl (vp_in_of' h2 h3) hd (fun H1 locs1 hP1 hD1 hS1 => ?_)
  have ew := ww_arr (x := (vp_nar .byte w).toInt) (j := y.toInt.toNat) hW.2.1 hk0 ho (Int32.ofInt_toInt _)
  rw [hk] at ew
  rw [clamp_e, ew] at hP1 hD1
  have eb : i2bI w.toInt = (vp_nar .byte w).toInt := by unfold i2bI; rw [Int32.ofInt_toInt, vp_nar_byte]
  rw [eb] at kk
  exact kk G A p l e R s mid args below meth c cells slots Z hC hX hE H1 locs1 ls _ ⟨hP1, hD1, hS1, hW.2.2.2.1.up (in64_32 (i32_in _)) (fun _ => i32_in _), hW.2.2.2.2⟩ hl hs1
theorem wp_zastore {c0 i0 : Nat} {x z : Int} (hd : decode M.2.1 pc = .ok (.bastore, 1)) (ho : oc c0 = none) (hk : ak c0 = 2) (h2 : 0 ≤ x) (h3 : x < (al c0 : Int)) (hz : z = 0 ∨ z = 1) (kk : WP M (pc + 1) als ast (up σ c0 i0 x.toNat z) Q) (h1 : c0 < 1000 := by decide) : WP M pc als (vI z :: vI x :: vR c0 i0 :: ast) σ Q := by
  intro G A p l e R s mid args below meth c cells slots Z hC hX hE H locs ls st hW hl hs
  obtain ⟨w, stw, rfl, rfl, hsw⟩ := rs_I hs
  obtain ⟨y, st0, rfl, rfl, hs0⟩ := rs_I hsw
  obtain ⟨st1, rfl, hm, hs1⟩ := rs_R hs0
  have hm : (c0, i0) ∈ G.2.2.2.1 := hm.resolve_right (by omega)
  obtain ⟨k0, hk0, hk1⟩ := ww_at (σ := σ) hm
  rw [ce_arr ho, hk] at hk1
  refine va_zast hC.1 hC.2.1 hC.2.2.2.2.2.2.2.1 hW.1 hW.2.1 hW.2.2.1 k0 2 hk1 rfl (vp_in_of' h2 h3) hd (fun H1 locs1 hP1 hD1 hS1 => ?_)
  have hw : w = 0 ∨ w = 1 := hz.imp (fun h => Int32.toInt_inj.mp h) (fun h => Int32.toInt_inj.mp h)
  have en : vp_nar .boolean w = w := by rcases hw with rfl | rfl <;> rfl
  have ew := ww_arr (x := w.toInt) (j := y.toInt.toNat) hW.2.1 hk0 ho (Int32.ofInt_toInt _)
  rw [hk] at ew
  rw [clamp_e, en, ew] at hP1 hD1
  exact kk G A p l e R s mid args below meth c cells slots Z hC hX hE H1 locs1 ls _ ⟨hP1, hD1, hS1, hW.2.2.2.1.up (in64_32 (i32_in _)) (fun _ => i32_in _), hW.2.2.2.2⟩ hl hs1
theorem wp_alen {c0 i0 : Nat} {n : Int} (hd : decode M.2.1 pc = .ok (.arraylength, 1)) (ho : oc c0 = none) (hk : ak c0 < 3) (hn : (Int32.ofNat (al c0)).toInt = n) (kk : WP M (pc + 1) als (vI n :: ast) σ Q) (h1 : c0 < 1000 := by decide) : WP M pc als (vR c0 i0 :: ast) σ Q := by
  intro G A p l e R s mid args below meth c cells slots Z hC hX hE H locs ls st hW hl hs
  obtain ⟨st1, rfl, hm, hs1⟩ := rs_R hs
  have hm : (c0, i0) ∈ G.2.2.2.1 := hm.resolve_right (by omega)
  obtain ⟨k0, hk0, hk1⟩ := ww_at (σ := σ) hm
  rw [ce_arr ho] at hk1
  have ht : ∃ ty, (tyL G)[ak c0]? = some (G.2.1 (ak c0), ty) := by
    rcases (show ak c0 = 0 ∨ ak c0 = 1 ∨ ak c0 = 2 by omega) with h | h | h <;> rw [h] <;> exact ⟨_, rfl⟩
  obtain ⟨ty, ht⟩ := ht
  refine va_alen hC.1 hC.2.1 hC.2.2.2.2.2.2.2.1 hW.1 k0 (ak c0) hk1 ht rfl hd ?_
  exact kk G A p l e R s mid args below meth c cells slots Z hC hX hE H locs ls _ hW hl ⟨⟨_, rfl, hn⟩, hs1⟩
end Mem
