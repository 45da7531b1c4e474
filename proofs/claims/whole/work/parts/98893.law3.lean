/-! ===== the law: its loop ===== -/
section Law3
variable {G : GG} {A : Nat → Prop} {p : Program} {l : Launch} {e : Env} {R : Room} {s : State} {mid : MethodId} {args : Array Value} {below : List Frame} {meth : Method} {c : Code} {cells slots : Nat} {Z : State → Prop} {σ : St} {L : Nat} {xs : Nat → Int32}
theorem law_loop (hC : CX mL_law G A p R s mid args meth c) (hX : SQ mL_law G A s mid ∧ cells ≤ R.cells ∧ slots ≤ R.slots) (hY : SCX G A s L xs) (hL : L ≤ 3072) (hend : ∀ H locs ls σ, WD G A σ s H locs → W p l e R s mid args below meth c H locs cells slots Z (F0 mid 1254 ls [.int 1])) : ∀ (n : Nat) (i : Int) (σ : St) (V : Vy), 0 ≤ i → (L : Int) < i + n → INV V σ → WL mL_law G A p l e R s mid args below meth c cells slots Z 18 [vR 1000 0, vR 12 0, vR 14 0, vI i] [] σ := by
  intro n
  induction n with
  | zero =>
    intro i σ V hi hn hI
    refine wl_iload_n hC dL_law_18 rfl rfl ?_
    refine wl_aload_n hC dL_law_19 rfl rfl ?_
    refine wl_slen hL hC hY dL_law_20 ?_
    refine wl_bipush hC dL_law_21 rfl ?_
    refine wl_isub hC dL_law_23 ?_ (h1 := by omega) (h2 := by omega)
    refine wl_icmp_gt hC (tgt := 1253) dL_law_24 (by decide) (fun _ => ?_) (fun q => by omega)
    intro H locs ls st hW hl hs
    cases rs_nil hs
    refine lv_iconst hC.1 hC.2.1 dL_law_1253 rfl ?_
    exact hend H locs ls σ hW
  | succ n ih =>
    intro i σ V hi hn hI
    refine wl_iload_n hC dL_law_18 rfl rfl ?_
    refine wl_aload_n hC dL_law_19 rfl rfl ?_
    refine wl_slen hL hC hY dL_law_20 ?_
    refine wl_bipush hC dL_law_21 rfl ?_
    refine wl_isub hC dL_law_23 ?_ (h1 := by omega) (h2 := by omega)
    refine wl_icmp_gt hC (tgt := 1253) dL_law_24 (by decide) (fun _ => ?_) (fun hle => ?_)
    · intro H locs ls st hW hl hs
      cases rs_nil hs
      refine lv_iconst hC.1 hC.2.1 dL_law_1253 rfl ?_
      exact hend H locs ls σ hW
    · have kn : ∀ τ V, INV V τ → WL mL_law G A p l e R s mid args below meth c cells slots Z 1247 [vR 1000 0, vR 12 0, vR 14 0, vI i] [] τ := fun τ V2 h2 => by
        refine wl_iinc hC dL_law_1247 rfl (by decide) rfl rfl ?_ (h1 := by omega) (h2 := by omega)
        refine wl_goto hC (tgt := 18) dL_law_1250 (by decide) ?_
        exact ih (i + 6) τ V2 (by omega) (by omega) h2
      refine wl_aload_n hC dL_law_27 rfl rfl ?_
      refine wl_iload_n hC dL_law_28 rfl rfl ?_
      refine wl_sld hC hY dL_law_29 (by omega) (by omega) ?_
      refine wl_bipush hC dL_law_30 rfl ?_
      refine wl_iand hC dL_law_32 ?_
      generalize band (xs i.toNat).toInt 63 = w
      by_cases q0 : w = 0
      · exact wl_tsIn hC (tgt := 196) dL_law_33 (by omega) (by omega) (by rw [q0]; rfl) (by decide) (law_0 hC hX hY hL hi (by omega) hI kn)
      by_cases q1 : w = 1
      · exact wl_tsIn hC (tgt := 259) dL_law_33 (by omega) (by omega) (by rw [q1]; rfl) (by decide) (law_1 hC hX hY hL hi (by omega) hI kn)
      by_cases q2 : w = 2
      · exact wl_tsIn hC (tgt := 282) dL_law_33 (by omega) (by omega) (by rw [q2]; rfl) (by decide) (law_2 hC hX hY hL hi (by omega) hI kn)
      by_cases q3 : w = 3
      · exact wl_tsIn hC (tgt := 295) dL_law_33 (by omega) (by omega) (by rw [q3]; rfl) (by decide) (law_3 hC hX hY hL hi (by omega) hI kn)
      by_cases q4 : w = 4
      · exact wl_tsIn hC (tgt := 318) dL_law_33 (by omega) (by omega) (by rw [q4]; rfl) (by decide) (law_4 hC hX hY hL hi (by omega) hI kn)
      by_cases q5 : w = 5
      · exact wl_tsIn hC (tgt := 341) dL_law_33 (by omega) (by omega) (by rw [q5]; rfl) (by decide) (law_5 hC hX hY hL hi (by omega) hI kn)
      by_cases q6 : w = 6
      · exact wl_tsIn hC (tgt := 374) dL_law_33 (by omega) (by omega) (by rw [q6]; rfl) (by decide) (law_6 hC hX hY hL hi (by omega) hI kn)
      by_cases q7 : w = 7
      · exact wl_tsIn hC (tgt := 407) dL_law_33 (by omega) (by omega) (by rw [q7]; rfl) (by decide) (law_7 hC hX hY hL hi (by omega) hI kn)
      by_cases q8 : w = 8
      · exact wl_tsIn hC (tgt := 440) dL_law_33 (by omega) (by omega) (by rw [q8]; rfl) (by decide) (law_8 hC hX hY hL hi (by omega) hI kn)
      by_cases q9 : w = 9
      · exact wl_tsIn hC (tgt := 483) dL_law_33 (by omega) (by omega) (by rw [q9]; rfl) (by decide) (law_9 hC hX hY hL hi (by omega) hI kn)
      by_cases q10 : w = 10
      · exact wl_tsIn hC (tgt := 496) dL_law_33 (by omega) (by omega) (by rw [q10]; rfl) (by decide) (law_10 hC hX hY hL hi (by omega) hI kn)
      by_cases q11 : w = 11
      · exact wl_tsIn hC (tgt := 529) dL_law_33 (by omega) (by omega) (by rw [q11]; rfl) (by decide) (law_11 hC hX hY hL hi (by omega) hI kn)
      by_cases q12 : w = 12
      · exact wl_tsIn hC (tgt := 552) dL_law_33 (by omega) (by omega) (by rw [q12]; rfl) (by decide) (law_12 hC hX hY hL hi (by omega) hI kn)
      by_cases q13 : w = 13
      · exact wl_tsIn hC (tgt := 585) dL_law_33 (by omega) (by omega) (by rw [q13]; rfl) (by decide) (law_13 hC hX hY hL hi (by omega) hI kn)
      by_cases q14 : w = 14
      · exact wl_tsIn hC (tgt := 618) dL_law_33 (by omega) (by omega) (by rw [q14]; rfl) (by decide) (law_14 hC hX hY hL hi (by omega) hI kn)
      by_cases q15 : w = 15
      · exact wl_tsIn hC (tgt := 641) dL_law_33 (by omega) (by omega) (by rw [q15]; rfl) (by decide) (law_15 hC hX hY hL hi (by omega) hI kn)
      by_cases q16 : w = 16
      · exact wl_tsIn hC (tgt := 674) dL_law_33 (by omega) (by omega) (by rw [q16]; rfl) (by decide) (law_16 hC hX hY hL hi (by omega) hI kn)
      by_cases q17 : w = 17
      · exact wl_tsIn hC (tgt := 697) dL_law_33 (by omega) (by omega) (by rw [q17]; rfl) (by decide) (law_17 hC hX hY hL hi (by omega) hI kn)
      by_cases q18 : w = 18
      · exact wl_tsIn hC (tgt := 720) dL_law_33 (by omega) (by omega) (by rw [q18]; rfl) (by decide) (law_18 hC hX hY hL hi (by omega) hI kn)
      by_cases q19 : w = 19
      · exact wl_tsIn hC (tgt := 733) dL_law_33 (by omega) (by omega) (by rw [q19]; rfl) (by decide) (law_19 hC hX hY hL hi (by omega) hI kn)
      by_cases q20 : w = 20
      · exact wl_tsIn hC (tgt := 756) dL_law_33 (by omega) (by omega) (by rw [q20]; rfl) (by decide) (law_20 hC hX hY hL hi (by omega) hI kn)
      by_cases q21 : w = 21
      · exact wl_tsIn hC (tgt := 779) dL_law_33 (by omega) (by omega) (by rw [q21]; rfl) (by decide) (law_21 hC hX hY hL hi (by omega) hI kn)
      by_cases q22 : w = 22
      · exact wl_tsIn hC (tgt := 792) dL_law_33 (by omega) (by omega) (by rw [q22]; rfl) (by decide) (law_22 hC hX hY hL hi (by omega) hI kn)
      by_cases q23 : w = 23
      · exact wl_tsIn hC (tgt := 825) dL_law_33 (by omega) (by omega) (by rw [q23]; rfl) (by decide) (law_23 hC hX hY hL hi (by omega) hI kn)
      by_cases q24 : w = 24
      · exact wl_tsIn hC (tgt := 848) dL_law_33 (by omega) (by omega) (by rw [q24]; rfl) (by decide) (law_24 hC hX hY hL hi (by omega) hI kn)
      by_cases q25 : w = 25
      · exact wl_tsIn hC (tgt := 871) dL_law_33 (by omega) (by omega) (by rw [q25]; rfl) (by decide) (law_25 hC hX hY hL hi (by omega) hI kn)
      by_cases q26 : w = 26
      · exact wl_tsIn hC (tgt := 914) dL_law_33 (by omega) (by omega) (by rw [q26]; rfl) (by decide) (law_26 hC hX hY hL hi (by omega) hI kn)
      by_cases q27 : w = 27
      · exact wl_tsIn hC (tgt := 937) dL_law_33 (by omega) (by omega) (by rw [q27]; rfl) (by decide) (law_27 hC hX hY hL hi (by omega) hI kn)
      by_cases q28 : w = 28
      · exact wl_tsIn hC (tgt := 960) dL_law_33 (by omega) (by omega) (by rw [q28]; rfl) (by decide) (law_28 hC hX hY hL hi (by omega) hI kn)
      by_cases q29 : w = 29
      · exact wl_tsIn hC (tgt := 1013) dL_law_33 (by omega) (by omega) (by rw [q29]; rfl) (by decide) (law_29 hC hX hY hL hi (by omega) hI kn)
      by_cases q30 : w = 30
      · exact wl_tsIn hC (tgt := 1036) dL_law_33 (by omega) (by omega) (by rw [q30]; rfl) (by decide) (law_30 hC hX hY hL hi (by omega) hI kn)
      by_cases q31 : w = 31
      · exact wl_tsIn hC (tgt := 1059) dL_law_33 (by omega) (by omega) (by rw [q31]; rfl) (by decide) (law_31 hC hX hY hL hi (by omega) hI kn)
      by_cases q32 : w = 32
      · exact wl_tsIn hC (tgt := 1082) dL_law_33 (by omega) (by omega) (by rw [q32]; rfl) (by decide) (law_32 hC hX hY hL hi (by omega) hI kn)
      by_cases q33 : w = 33
      · exact wl_tsIn hC (tgt := 1125) dL_law_33 (by omega) (by omega) (by rw [q33]; rfl) (by decide) (law_33 hC hX hY hL hi (by omega) hI kn)
      by_cases q34 : w = 34
      · exact wl_tsIn hC (tgt := 1168) dL_law_33 (by omega) (by omega) (by rw [q34]; rfl) (by decide) (law_34 hC hX hY hL hi (by omega) hI kn)
      by_cases q35 : w = 35
      · exact wl_tsIn hC (tgt := 1201) dL_law_33 (by omega) (by omega) (by rw [q35]; rfl) (by decide) (law_35 hC hX hY hL hi (by omega) hI kn)
      by_cases q36 : w = 36
      · exact wl_tsIn hC (tgt := 1224) dL_law_33 (by omega) (by omega) (by rw [q36]; rfl) (by decide) (law_36 hC hX hY hL hi (by omega) hI kn)
      exact wl_tsOut hC (tgt := 1247) dL_law_33 (by omega) (by decide) (kn σ V hI)
end Law3
