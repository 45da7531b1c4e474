/-! ===== loops, fills ===== -/
theorem wp_meas {α : Type} (μ : α → Nat) (I W : α → Prop) (step : ∀ a, I a → (∀ b, I b → μ b < μ a → W b) → W a) : ∀ a, I a → W a := by
  have key : ∀ n a, μ a < n → I a → W a := by
    intro n
    induction n with
    | zero => intro a h; omega
    | succ n ih => intro a h hI; exact step a hI (fun b hb hm => ih b (by omega) hb)
  intro a hI
  exact key (μ a + 1) a (by omega) hI
theorem upR_up {σ : St} {c i k : Nat} {v : Int} : up (upR σ c i 0 k (fun _ => v)) c i k v = upR σ c i 0 (k + 1) (fun _ => v) := by
  funext c' i' j'
  unfold up upR
  by_cases h : c' = c ∧ i' = i ∧ j' = k
  · rw [if_pos h, if_pos ⟨h.1, h.2.1, by omega, by omega⟩]
  · rw [if_neg h]
    by_cases h2 : c' = c ∧ i' = i ∧ 0 ≤ j' ∧ j' < 0 + k
    · rw [if_pos h2, if_pos ⟨h2.1, h2.2.1, by omega, by omega⟩]
    · rw [if_neg h2, if_neg (fun q => by
        by_cases e : j' = k
        · exact h ⟨q.1, q.2.1, e⟩
        · exact h2 ⟨q.1, q.2.1, by omega, by omega⟩)]
theorem upR_0 {σ : St} {c i d : Nat} {f : Nat → Int} : upR σ c i d 0 f = σ := by
  funext c' i' j'
  unfold upR
  rw [if_neg (fun q => by omega)]
theorem c_fill {c0 j : Nat} {x1 : Int} {σ : St} {Q : Res → St → Prop} (h00 : c0 ≠ 0) (hoc : oc c0 = none) (hak : ak c0 = 0) (hlt : c0 < 1000) (hal : (Int32.ofNat (al c0)).toInt = (al c0 : Int)) (h : Q (.inl none) (upR σ c0 j 0 (al c0) (fun _ => x1))) : WP mJ7_fill_53178 0 [vR c0 j, vI x1, vU, vU] [] σ Q := by
  refine b_J7_fill_53178_0 h00 hoc hak hlt hal ?_
  have hb : (al c0 : Int) < 2147483648 := by rw [← hal]; exact (i32_in _).2
  have key : ∀ n k : Nat, n + k = al c0 → WP mJ7_fill_53178 5 [vR c0 j, vI x1, vI (k : Int), vI (al c0 : Int)] [] (upR σ c0 j 0 k (fun _ => x1)) Q := by
    intro n
    induction n with
    | zero =>
      intro k hk
      refine b_J7_fill_53178_5 h00 hoc hak hlt hal ⟨fun _ => ?_, fun q => by omega⟩
      rw [show k = al c0 by omega]
      exact h
    | succ n ih =>
      intro k hk
      refine b_J7_fill_53178_5 h00 hoc hak hlt hal ⟨fun q => by omega, fun _ => ⟨⟨by omega, by omega⟩, by unfold in32; omega, ?_⟩⟩
      rw [Int.toNat_natCast, upR_up]
      exact ih (k + 1) (by omega)
  have := key (al c0) 0 (by omega)
  rw [upR_0] at this
  exact this
theorem c_fillTo {c0 j : Nat} {x1 x2 : Int} {σ : St} {Q : Res → St → Prop} (h00 : c0 ≠ 0) (hoc : oc c0 = none) (hak : ak c0 = 0) (hlt : c0 < 1000) (hal : (Int32.ofNat (al c0)).toInt = (al c0 : Int)) (h : Q (.inl none) (upR σ c0 j 0 (min x1.toNat (al c0)) (fun _ => x2))) : WP mX11_fillTo 0 [vR c0 j, vI x1, vI x2, vU] [] σ Q := by
  refine b_X11_fillTo_0 h00 hoc hak hlt hal ?_
  have hb : (al c0 : Int) < 2147483648 := by rw [← hal]; exact (i32_in _).2
  have key : ∀ n k : Nat, n + k = min x1.toNat (al c0) → WP mX11_fillTo 2 [vR c0 j, vI x1, vI x2, vI (k : Int)] [] (upR σ c0 j 0 k (fun _ => x2)) Q := by
    intro n
    induction n with
    | zero =>
      intro k hk
      have e : Q (.inl none) (upR σ c0 j 0 k (fun _ => x2)) := by
        rw [show k = min x1.toNat (al c0) by omega]
        exact h
      exact b_X11_fillTo_2 h00 hoc hak hlt hal ⟨fun _ => e, fun q => ⟨fun _ => e, fun q2 => by omega⟩⟩
    | succ n ih =>
      intro k hk
      refine b_X11_fillTo_2 h00 hoc hak hlt hal ⟨fun q => by omega, fun q => ⟨fun q2 => by omega, fun q2 => ⟨⟨by omega, by omega⟩, by unfold in32; omega, ?_⟩⟩⟩
      rw [Int.toNat_natCast, upR_up]
      exact ih (k + 1) (by omega)
  have := key (min x1.toNat (al c0)) 0 (by omega)
  rw [upR_0] at this
  exact this
