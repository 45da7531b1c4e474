/-! ===== the strings: length, charAt ===== -/
abbrev mSlen : MI := (yJ0_length_8abf5, cJ0_length_8abf5, 1, some .int, 1)
theorem mvSlen : MV mSlen 0 := ⟨⟨(tb_3 162 rfl rfl), (tb_1 20 rfl rfl), ⟨by decide, by decide, by decide +kernel⟩, by decide +kernel, by decide⟩, (tb_3 160 rfl rfl), (tb_3 161 rfl rfl)⟩
abbrev mScod : MI := (yJ0_coder_7d493, cJ0_coder_7d493, 1, some .byte, 0)
theorem mvScod : MV mScod 0 := ⟨⟨(tb_3 166 rfl rfl), (tb_1 20 rfl rfl), ⟨by decide, by decide, by decide +kernel⟩, by decide +kernel, by decide⟩, (tb_3 164 rfl rfl), (tb_3 165 rfl rfl)⟩
abbrev mSlat : MI := (yJ0_isLatin1_aae02, cJ0_isLatin1_aae02, 1, some .boolean, 0)
theorem mvSlat : MV mSlat 0 := ⟨⟨(tb_3 176 rfl rfl), (tb_1 20 rfl rfl), ⟨by decide, by decide, by decide +kernel⟩, by decide +kernel, by decide⟩, (tb_3 174 rfl rfl), (tb_3 175 rfl rfl)⟩
abbrev mSpre : MI := (yJ3_checkIndex_8e157, cJ3_checkIndex_8e157, 3, some .int, 0)
theorem mvSpre : MS mSpre 3 := ⟨⟨(tb_3 187 rfl rfl), (tb_1 22 rfl rfl), ⟨by decide, by decide, by decide +kernel⟩, by decide +kernel, by decide⟩, (tb_3 186 rfl rfl)⟩
abbrev mSchk : MI := (yJ0_checkIndex_df160, cJ0_checkIndex_df160, 2, none, 1)
theorem mvSchk : MS mSchk 2 := ⟨⟨(tb_3 182 rfl rfl), (tb_1 20 rfl rfl), ⟨by decide, by decide, by decide +kernel⟩, by decide +kernel, by decide⟩, (tb_3 181 rfl rfl)⟩
abbrev mSl1 : MI := (yJ1_charAt_3b067, cJ1_charAt_3b067, 2, some .char, 2)
theorem mvSl1 : MS mSl1 2 := ⟨⟨(tb_3 179 rfl rfl), (tb_1 21 rfl rfl), ⟨by decide, by decide, by decide +kernel⟩, by decide +kernel, by decide⟩, (tb_3 178 rfl rfl)⟩
abbrev mScha : MI := (yJ0_charAt_5068e, cJ0_charAt_5068e, 2, some .char, 3)
theorem mvScha : MV mScha 1 := ⟨⟨(tb_3 172 rfl rfl), (tb_1 20 rfl rfl), ⟨by decide, by decide, by decide +kernel⟩, by decide +kernel, by decide⟩, (tb_3 170 rfl rfl), (tb_3 171 rfl rfl)⟩
theorem dJ0_length_8abf5_0 : decode cJ0_length_8abf5 0 = .ok (.aload_n 0, 1) := by decide +kernel
theorem dJ0_length_8abf5_1 : decode cJ0_length_8abf5 1 = .ok (.getfield 9, 3) := by decide +kernel
theorem dJ0_length_8abf5_4 : decode cJ0_length_8abf5 4 = .ok (.arraylength, 1) := by decide +kernel
theorem dJ0_length_8abf5_5 : decode cJ0_length_8abf5 5 = .ok (.aload_n 0, 1) := by decide +kernel
theorem dJ0_length_8abf5_6 : decode cJ0_length_8abf5 6 = .ok (.invokevirtual 335, 3) := by decide +kernel
theorem dJ0_length_8abf5_9 : decode cJ0_length_8abf5 9 = .ok (.ishr, 1) := by decide +kernel
theorem dJ0_length_8abf5_10 : decode cJ0_length_8abf5 10 = .ok (.ireturn, 1) := by decide +kernel
theorem dJ0_coder_7d493_0 : decode cJ0_coder_7d493 0 = .ok (.getstatic 38, 3) := by decide +kernel
theorem dJ0_coder_7d493_3 : decode cJ0_coder_7d493 3 = .ok (.ifCond .eq 10, 3) := by decide +kernel
theorem dJ0_coder_7d493_6 : decode cJ0_coder_7d493 6 = .ok (.aload_n 0, 1) := by decide +kernel
theorem dJ0_coder_7d493_7 : decode cJ0_coder_7d493 7 = .ok (.getfield 15, 3) := by decide +kernel
theorem dJ0_coder_7d493_10 : decode cJ0_coder_7d493 10 = .ok (.goto 4, 3) := by decide +kernel
theorem dJ0_coder_7d493_13 : decode cJ0_coder_7d493 13 = .ok (.iconst 1, 1) := by decide +kernel
theorem dJ0_coder_7d493_14 : decode cJ0_coder_7d493 14 = .ok (.ireturn, 1) := by decide +kernel
theorem dJ0_isLatin1_aae02_0 : decode cJ0_isLatin1_aae02 0 = .ok (.getstatic 38, 3) := by decide +kernel
theorem dJ0_isLatin1_aae02_3 : decode cJ0_isLatin1_aae02 3 = .ok (.ifCond .eq 14, 3) := by decide +kernel
theorem dJ0_isLatin1_aae02_6 : decode cJ0_isLatin1_aae02 6 = .ok (.aload_n 0, 1) := by decide +kernel
theorem dJ0_isLatin1_aae02_7 : decode cJ0_isLatin1_aae02 7 = .ok (.getfield 15, 3) := by decide +kernel
theorem dJ0_isLatin1_aae02_10 : decode cJ0_isLatin1_aae02 10 = .ok (.ifCond .ne 7, 3) := by decide +kernel
theorem dJ0_isLatin1_aae02_13 : decode cJ0_isLatin1_aae02 13 = .ok (.iconst 1, 1) := by decide +kernel
theorem dJ0_isLatin1_aae02_14 : decode cJ0_isLatin1_aae02 14 = .ok (.goto 4, 3) := by decide +kernel
theorem dJ0_isLatin1_aae02_17 : decode cJ0_isLatin1_aae02 17 = .ok (.iconst 0, 1) := by decide +kernel
theorem dJ0_isLatin1_aae02_18 : decode cJ0_isLatin1_aae02 18 = .ok (.ireturn, 1) := by decide +kernel
theorem dJ3_checkIndex_8e157_0 : decode cJ3_checkIndex_8e157 0 = .ok (.iload_n 0, 1) := by decide +kernel
theorem dJ3_checkIndex_8e157_1 : decode cJ3_checkIndex_8e157 1 = .ok (.ifCond .lt 8, 3) := by decide +kernel
theorem dJ3_checkIndex_8e157_4 : decode cJ3_checkIndex_8e157 4 = .ok (.iload_n 0, 1) := by decide +kernel
theorem dJ3_checkIndex_8e157_5 : decode cJ3_checkIndex_8e157 5 = .ok (.iload_n 1, 1) := by decide +kernel
theorem dJ3_checkIndex_8e157_6 : decode cJ3_checkIndex_8e157 6 = .ok (.if_icmp .lt 10, 3) := by decide +kernel
theorem dJ3_checkIndex_8e157_9 : decode cJ3_checkIndex_8e157 9 = .ok (.aload_n 2, 1) := by decide +kernel
theorem dJ3_checkIndex_8e157_10 : decode cJ3_checkIndex_8e157 10 = .ok (.iload_n 0, 1) := by decide +kernel
theorem dJ3_checkIndex_8e157_11 : decode cJ3_checkIndex_8e157 11 = .ok (.iload_n 1, 1) := by decide +kernel
theorem dJ3_checkIndex_8e157_12 : decode cJ3_checkIndex_8e157 12 = .ok (.invokestatic 95, 3) := by decide +kernel
theorem dJ3_checkIndex_8e157_15 : decode cJ3_checkIndex_8e157 15 = .ok (.athrow, 1) := by decide +kernel
theorem dJ3_checkIndex_8e157_16 : decode cJ3_checkIndex_8e157 16 = .ok (.iload_n 0, 1) := by decide +kernel
theorem dJ3_checkIndex_8e157_17 : decode cJ3_checkIndex_8e157 17 = .ok (.ireturn, 1) := by decide +kernel
theorem dJ0_checkIndex_df160_0 : decode cJ0_checkIndex_df160 0 = .ok (.iload_n 0, 1) := by decide +kernel
theorem dJ0_checkIndex_df160_1 : decode cJ0_checkIndex_df160 1 = .ok (.iload_n 1, 1) := by decide +kernel
theorem dJ0_checkIndex_df160_2 : decode cJ0_checkIndex_df160 2 = .ok (.getstatic 1053, 3) := by decide +kernel
theorem dJ0_checkIndex_df160_5 : decode cJ0_checkIndex_df160 5 = .ok (.invokestatic 1059, 3) := by decide +kernel
theorem dJ0_checkIndex_df160_8 : decode cJ0_checkIndex_df160 8 = .ok (.pop, 1) := by decide +kernel
theorem dJ0_checkIndex_df160_9 : decode cJ0_checkIndex_df160 9 = .ok (.return_, 1) := by decide +kernel
theorem dJ1_charAt_3b067_0 : decode cJ1_charAt_3b067 0 = .ok (.iload_n 1, 1) := by decide +kernel
theorem dJ1_charAt_3b067_1 : decode cJ1_charAt_3b067 1 = .ok (.aload_n 0, 1) := by decide +kernel
theorem dJ1_charAt_3b067_2 : decode cJ1_charAt_3b067 2 = .ok (.arraylength, 1) := by decide +kernel
theorem dJ1_charAt_3b067_3 : decode cJ1_charAt_3b067 3 = .ok (.invokestatic 9, 3) := by decide +kernel
theorem dJ1_charAt_3b067_6 : decode cJ1_charAt_3b067 6 = .ok (.aload_n 0, 1) := by decide +kernel
theorem dJ1_charAt_3b067_7 : decode cJ1_charAt_3b067 7 = .ok (.iload_n 1, 1) := by decide +kernel
theorem dJ1_charAt_3b067_8 : decode cJ1_charAt_3b067 8 = .ok (.baload, 1) := by decide +kernel
theorem dJ1_charAt_3b067_9 : decode cJ1_charAt_3b067 9 = .ok (.sipush 255, 3) := by decide +kernel
theorem dJ1_charAt_3b067_12 : decode cJ1_charAt_3b067 12 = .ok (.iand, 1) := by decide +kernel
theorem dJ1_charAt_3b067_13 : decode cJ1_charAt_3b067 13 = .ok (.i2c, 1) := by decide +kernel
theorem dJ1_charAt_3b067_14 : decode cJ1_charAt_3b067 14 = .ok (.ireturn, 1) := by decide +kernel
theorem dJ0_charAt_5068e_0 : decode cJ0_charAt_5068e 0 = .ok (.aload_n 0, 1) := by decide +kernel
theorem dJ0_charAt_5068e_1 : decode cJ0_charAt_5068e 1 = .ok (.invokevirtual 492, 3) := by decide +kernel
theorem dJ0_charAt_5068e_4 : decode cJ0_charAt_5068e 4 = .ok (.ifCond .eq 12, 3) := by decide +kernel
theorem dJ0_charAt_5068e_7 : decode cJ0_charAt_5068e 7 = .ok (.aload_n 0, 1) := by decide +kernel
theorem dJ0_charAt_5068e_8 : decode cJ0_charAt_5068e 8 = .ok (.getfield 9, 3) := by decide +kernel
theorem dJ0_charAt_5068e_11 : decode cJ0_charAt_5068e 11 = .ok (.iload_n 1, 1) := by decide +kernel
theorem dJ0_charAt_5068e_12 : decode cJ0_charAt_5068e 12 = .ok (.invokestatic 495, 3) := by decide +kernel
theorem dJ0_charAt_5068e_15 : decode cJ0_charAt_5068e 15 = .ok (.ireturn, 1) := by decide +kernel
theorem dJ0_charAt_5068e_16 : decode cJ0_charAt_5068e 16 = .ok (.aload_n 0, 1) := by decide +kernel
theorem dJ0_charAt_5068e_17 : decode cJ0_charAt_5068e 17 = .ok (.getfield 9, 3) := by decide +kernel
theorem dJ0_charAt_5068e_20 : decode cJ0_charAt_5068e 20 = .ok (.iload_n 1, 1) := by decide +kernel
theorem dJ0_charAt_5068e_21 : decode cJ0_charAt_5068e 21 = .ok (.invokestatic 498, 3) := by decide +kernel
theorem dJ0_charAt_5068e_24 : decode cJ0_charAt_5068e 24 = .ok (.ireturn, 1) := by decide +kernel
def PcS (G : GG) (A : Nat → Prop) (vs : List Value) : Array Value → State → Prop := fun v U => v = vs.toArray ∧ SX G A U
def QcS (r : Option Value) : Array Value → State → Outcome → State → Prop := fun _ st o t => o = .returned r ∧ t.heap = st.heap
theorem ps_blind {G : GG} {A : Nat → Prop} {vs : List Value} : FrameBlind (PcS G A vs) := fun _ _ _ _ h => ⟨h.1, sx_calling h.2⟩
abbrev MetS (l : Launch) (G : GG) (A : Nat → Prop) (N : MI) (vs : List Value) (r : Option Value) : Prop := Met l N.1 (wsOf N) (rmOf N) (PcS G A vs) (QcS r) 0 0 (fun _ => False)
section Str
variable {p : Program} {l : Launch} {e : Env} {R : Room} {s : State} {m : MethodId} {args : Array Value} {below : List Frame} {meth : Method} {c : Code} {H : Heap} {locs : List Loc} {cells slots : Nat} {Q : State → Prop} {pc : Nat} {ls : Array Slot} {rest st0 As : List Value} {M N : MI} {n idx : Nat} {r : Option Value} {G : GG} {A : Nat → Prop}
theorem s_go {aa : Array Value} (hrun : va_Run p l e R s m args below meth c H locs cells slots 0 0 (F0 m pc ls st0) rest (QcS r aa) (fun _ => False)) (k : W p l e R s m args below meth c H locs cells slots Q (F0 m (pc + 3) ls (r.toList ++ rest))) : W p l e R s m args below meth c H locs cells slots Q (F0 m pc ls st0) := by
  intro T hT X
  obtain ⟨v', st₀, t, T', L, h0, X', hL, e1, e2, ⟨ho, hh⟩, go⟩ := hrun T hT X
  cases ho
  have hL0 : L = [] := by
    cases L with
    | nil => rfl
    | cons a l => exact (hL a List.mem_cons_self).elim
  subst hL0
  rw [List.append_nil] at X'
  obtain ⟨t2, a1, b1⟩ := k T' (by rw [e1, hh, h0]) X'
  exact ⟨t2, go t2 a1, b1⟩
theorem s_static (S : CallFix p m c M.2.1 M.2.2.1 s args TB M.1.cls) (hM : MetS l G A N As r) (hN : MS N n) (hm : Cond.methodLink M.1.cls idx N.1 ∈ TB) (hR : N.2.2.2.2 + 1 ≤ R.frames ∧ 8 + (N.2.2.1 + 11) + 39 * N.2.2.2.2 ≤ R.locals) (hS : va_S A s.heap H locs) (hX : SX G A s) (hn : As.length = n) (hsz : ls.size = M.2.2.1) (hst : st0 = As.reverse ++ rest) (hca : (rest.map fun v => v.category).sum ≤ 8) (hd : decode M.2.1 pc = .ok (.invokestatic idx, 3)) (hcs : cells ≤ R.cells ∧ slots ≤ R.slots)
    (k : W p l e R s m args below meth c H locs cells slots Q (F0 m (pc + 3) ls (r.toList ++ rest))) : W p l e R s m args below meth c H locs cells slots Q (F0 m pc ls st0) := by
  subst hst
  have hts := S.2.2.2.2
  exact s_go (va_runS S hM ⟨callB_of n hts (good_ws hN.1) rfl rfl rfl (hts _ hN.1.2.1) (hts _ hm) hN.1.2.2.1 hR, hts _ hN.2⟩ ⟨ps_blind, fun U hU hWm => ⟨rfl, sx_at hS hU hWm hX⟩⟩ rfl hn hsz rfl (lv_room hca) hd hcs) k
theorem s_virt {j : Nat} (hj : j < 11) (S : CallFix p m c M.2.1 M.2.2.1 s args TB M.1.cls) (hM : MetS l G A N (.ref (G.2.2.1 1001 j) :: As) r) (hN : MV N n) (hNc : N.1.cls = "java/lang/String") (hm : Cond.methodLink M.1.cls idx N.1 ∈ TB) (hR : N.2.2.2.2 + 1 ≤ R.frames ∧ 8 + (N.2.2.1 + 11) + 39 * N.2.2.2.2 ≤ R.locals) (hS : va_S A s.heap H locs) (hX : SX G A s) (hn : As.length = n) (hsz : ls.size = M.2.2.1) (hst : st0 = As.reverse ++ .ref (G.2.2.1 1001 j) :: rest) (hca : (rest.map fun v => v.category).sum ≤ 8) (hd : decode M.2.1 pc = .ok (.invokevirtual idx, 3)) (hcs : cells ≤ R.cells ∧ slots ≤ R.slots)
    (k : W p l e R s m args below meth c H locs cells slots Q (F0 m (pc + 3) ls (r.toList ++ rest))) : W p l e R s m args below meth c H locs cells slots Q (F0 m pc ls st0) := by
  subst hst
  have hts := S.2.2.2.2
  have hrecv := vk_recv hX.1.1 hj hS
  rw [← hNc] at hrecv
  exact s_go (va_runV S hM ⟨callB_of n hts (good_ws hN.1) rfl rfl rfl (hts _ hN.1.2.1) (hts _ hm) hN.1.2.2.1 hR, hts _ hN.2.1, hts _ hN.2.2⟩ ⟨ps_blind, hrecv, fun U hU hWm => ⟨rfl, sx_at hS hU hWm hX⟩⟩ rfl hn hsz rfl (lv_room hca) hd hcs) k
end Str
def chr (j k : Nat) : Int := ((strByt.getD j []).getD k 0).toInt
theorem len_all : ∀ i, i < 11 → (Int32.ofNat (strLen.getD i 0)) >>> ((0 : Int32) &&& 31) = Int32.ofNat (strLen.getD i 0) ∧ (Int32.ofNat (strLen.getD i 0)).toInt = ((strLen.getD i 0 : Nat) : Int) ∧ strLen.getD i 0 < 10 := by decide +kernel
theorem chr_all : ∀ i, i < 11 → ∀ k, k < 10 → ((((strByt.getD i []).getD k 0) &&& 255).toUInt32 % 65536).toInt32 = (strByt.getD i []).getD k 0 ∧ narrow .char (.int ((strByt.getD i []).getD k 0)) = .int ((strByt.getD i []).getD k 0) := by decide +kernel

section Str2
variable {G : GG} {A : Nat → Prop}
theorem s_coder (l : Launch) {i : Nat} (hi : i < 11) : MetS l G A mScod [Value.ref (G.2.2.1 1001 i)] (some (.int 0)) := by
  refine Met.ofW (cc := mScod.2.1) (maxL := mScod.2.2.1) (ret := mScod.2.2.2.1) (by decide +kernel) rfl ?_
  intro p e s m args below meth c s₁ B hml hv
  obtain ⟨rfl, hX⟩ := hv
  have hts : ∀ w ∈ wsOf mScod, w.before _ s = true := atoms_spec (ws := wsOf mScod) B.pre
  have htb : ∀ w ∈ TB, w.before _ s = true := fun w hw => hts w (List.mem_cons_of_mem _ hw)
  have hown := findClass_of_methodNamed B.named
  have S : CallFix p m c mScod.2.1 mScod.2.2.1 s _ TB mScod.1.cls := ⟨B.exec, B.bytes, hml, hown, htb⟩
  rw [lg_entry_eq]
  obtain ⟨g1, g2, g3, g4⟩ := hX.1.1.1 i hi
  have hl := lv_entry [Value.ref (G.2.2.1 1001 i)] (n := mScod.2.2.1) (Nat.le_of_ble_eq_true rfl)
  generalize ((lg_sl [Value.ref (G.2.2.1 1001 i)] ++ List.replicate (mScod.2.2.1 - (lg_sl [Value.ref (G.2.2.1 1001 i)]).length) Slot.unset).toArray) = ls at *
  refine va_gets B.exec B.bytes hX.1.2.1 va_S.rf hown (htb _ (tb_3 167 rfl rfl)) (fun x h => h) dJ0_coder_7d493_0 ?_
  refine lv_if_eq B.exec B.bytes (tgt := 13) dJ0_coder_7d493_3 (by decide) (fun h => absurd h (by decide)) (fun _ => ?_)
  refine lv_aload_n B.exec B.bytes dJ0_coder_7d493_6 rfl (lv_at hl 0 rfl) ?_
  refine vk_getf B.exec B.bytes g2 va_S.rf hown (htb _ (tb_9 164 rfl rfl)) (fun x h => h) dJ0_coder_7d493_7 ?_
  refine lv_goto B.exec B.bytes (tgt := 14) dJ0_coder_7d493_10 (by decide) ?_
  exact W.zret B.exec B.bytes B.returns rfl (fun t ht _ => ⟨rfl, ht⟩) (fun q hq => by cases hq) dJ0_coder_7d493_14 B.notSynchronized

theorem s_latin (l : Launch) {i : Nat} (hi : i < 11) : MetS l G A mSlat [Value.ref (G.2.2.1 1001 i)] (some (.int 1)) := by
  refine Met.ofW (cc := mSlat.2.1) (maxL := mSlat.2.2.1) (ret := mSlat.2.2.2.1) (by decide +kernel) rfl ?_
  intro p e s m args below meth c s₁ B hml hv
  obtain ⟨rfl, hX⟩ := hv
  have hts : ∀ w ∈ wsOf mSlat, w.before _ s = true := atoms_spec (ws := wsOf mSlat) B.pre
  have htb : ∀ w ∈ TB, w.before _ s = true := fun w hw => hts w (List.mem_cons_of_mem _ hw)
  have hown := findClass_of_methodNamed B.named
  have S : CallFix p m c mSlat.2.1 mSlat.2.2.1 s _ TB mSlat.1.cls := ⟨B.exec, B.bytes, hml, hown, htb⟩
  rw [lg_entry_eq]
  obtain ⟨g1, g2, g3, g4⟩ := hX.1.1.1 i hi
  have hl := lv_entry [Value.ref (G.2.2.1 1001 i)] (n := mSlat.2.2.1) (Nat.le_of_ble_eq_true rfl)
  generalize ((lg_sl [Value.ref (G.2.2.1 1001 i)] ++ List.replicate (mSlat.2.2.1 - (lg_sl [Value.ref (G.2.2.1 1001 i)]).length) Slot.unset).toArray) = ls at *
  refine va_gets B.exec B.bytes hX.1.2.1 va_S.rf hown (htb _ (tb_3 167 rfl rfl)) (fun x h => h) dJ0_isLatin1_aae02_0 ?_
  refine lv_if_eq B.exec B.bytes (tgt := 17) dJ0_isLatin1_aae02_3 (by decide) (fun h => absurd h (by decide)) (fun _ => ?_)
  refine lv_aload_n B.exec B.bytes dJ0_isLatin1_aae02_6 rfl (lv_at hl 0 rfl) ?_
  refine vk_getf B.exec B.bytes g2 va_S.rf hown (htb _ (tb_9 164 rfl rfl)) (fun x h => h) dJ0_isLatin1_aae02_7 ?_
  refine lv_if_ne B.exec B.bytes (tgt := 17) dJ0_isLatin1_aae02_10 (by decide) (fun h => absurd rfl h) (fun _ => ?_)
  refine lv_iconst B.exec B.bytes dJ0_isLatin1_aae02_13 rfl ?_
  refine lv_goto B.exec B.bytes (tgt := 18) dJ0_isLatin1_aae02_14 (by decide) ?_
  exact W.zret B.exec B.bytes B.returns rfl (fun t ht _ => ⟨rfl, ht⟩) (fun q hq => by cases hq) dJ0_isLatin1_aae02_18 B.notSynchronized

theorem s_length (l : Launch) {i : Nat} (hi : i < 11) : MetS l G A mSlen [Value.ref (G.2.2.1 1001 i)] (some (.int (Int32.ofNat (strLen.getD i 0)))) := by
  refine Met.ofW (cc := mSlen.2.1) (maxL := mSlen.2.2.1) (ret := mSlen.2.2.2.1) (by decide +kernel) rfl ?_
  intro p e s m args below meth c s₁ B hml hv
  obtain ⟨rfl, hX⟩ := hv
  have hts : ∀ w ∈ wsOf mSlen, w.before _ s = true := atoms_spec (ws := wsOf mSlen) B.pre
  have htb : ∀ w ∈ TB, w.before _ s = true := fun w hw => hts w (List.mem_cons_of_mem _ hw)
  have hown := findClass_of_methodNamed B.named
  have S : CallFix p m c mSlen.2.1 mSlen.2.2.1 s _ TB mSlen.1.cls := ⟨B.exec, B.bytes, hml, hown, htb⟩
  rw [lg_entry_eq]
  obtain ⟨g1, g2, g3, g4⟩ := hX.1.1.1 i hi
  have hl := lv_entry [Value.ref (G.2.2.1 1001 i)] (n := mSlen.2.2.1) (Nat.le_of_ble_eq_true rfl)
  generalize ((lg_sl [Value.ref (G.2.2.1 1001 i)] ++ List.replicate (mSlen.2.2.1 - (lg_sl [Value.ref (G.2.2.1 1001 i)]).length) Slot.unset).toArray) = ls at *
  refine lv_aload_n B.exec B.bytes dJ0_length_8abf5_0 rfl (lv_at hl 0 rfl) ?_
  refine vk_getf B.exec B.bytes g3 va_S.rf hown (htb _ (tb_9 163 rfl rfl)) (fun x h => h) dJ0_length_8abf5_1 ?_
  refine va_tlen B.exec B.bytes g4 va_S.rf rfl dJ0_length_8abf5_4 ?_
  refine lv_aload_n B.exec B.bytes dJ0_length_8abf5_5 rfl (lv_at hl 0 rfl) ?_
  refine s_virt (M := mSlen) (N := mScod) (As := []) hi S (s_coder l hi) mvScod rfl (tb_3 163 rfl rfl) ⟨Nat.le_refl _, by decide⟩ va_S.rf hX rfl hl.1 rfl (by simp [Value.category]) dJ0_length_8abf5_6 ⟨Nat.le_refl _, Nat.le_refl _⟩ ?_
  refine lv_ishr B.exec B.bytes dJ0_length_8abf5_9 ?_
  rw [(len_all i hi).1]
  exact W.iret B.exec B.bytes B.returns (fun t ht _ => ⟨rfl, ht⟩) (fun q hq => by cases hq) dJ0_length_8abf5_10 B.notSynchronized

theorem s_pre (l : Launch) {x y : Int32} {w : Value} (hw : w.category = 1) (h0 : ¬ x < 0) (h1 : x < y) : MetS l G A mSpre [Value.int x, Value.int y, w] (some (.int x)) := by
  refine Met.ofW (cc := mSpre.2.1) (maxL := mSpre.2.2.1) (ret := mSpre.2.2.2.1) (by decide +kernel) rfl ?_
  intro p e s m args below meth c s₁ B hml hv
  obtain ⟨rfl, hX⟩ := hv
  have hts : ∀ w ∈ wsOf mSpre, w.before _ s = true := atoms_spec (ws := wsOf mSpre) B.pre
  have htb : ∀ w ∈ TB, w.before _ s = true := fun w hw => hts w (List.mem_cons_of_mem _ hw)
  have hown := findClass_of_methodNamed B.named
  have S : CallFix p m c mSpre.2.1 mSpre.2.2.1 s _ TB mSpre.1.cls := ⟨B.exec, B.bytes, hml, hown, htb⟩
  rw [lg_entry_eq]
  have el : (lg_sl [Value.int x, Value.int y, w]).length ≤ 3 := by
    cases w <;> first | (simp [Value.category] at hw; done) | simp [lg_sl, Value.category]
  have hl := lv_entry [Value.int x, Value.int y, w] (n := mSpre.2.2.1) el
  generalize ((lg_sl [Value.int x, Value.int y, w] ++ List.replicate (mSpre.2.2.1 - (lg_sl [Value.int x, Value.int y, w]).length) Slot.unset).toArray) = ls at *
  refine lv_iload_n B.exec B.bytes dJ3_checkIndex_8e157_0 rfl (lv_at hl 0 rfl) ?_
  refine lv_if_lt B.exec B.bytes (tgt := 9) dJ3_checkIndex_8e157_1 (by decide) (fun h => absurd h h0) (fun _ => ?_)
  refine lv_iload_n B.exec B.bytes dJ3_checkIndex_8e157_4 rfl (lv_at hl 0 rfl) ?_
  refine lv_iload_n B.exec B.bytes dJ3_checkIndex_8e157_5 rfl (lv_at hl 1 rfl) ?_
  refine lv_icmp_lt B.exec B.bytes (tgt := 16) dJ3_checkIndex_8e157_6 (by decide) (fun _ => ?_) (fun h => absurd h1 h)
  refine lv_iload_n B.exec B.bytes dJ3_checkIndex_8e157_16 rfl (lv_at hl 0 rfl) ?_
  exact W.iret B.exec B.bytes B.returns (fun t ht _ => ⟨rfl, ht⟩) (fun q hq => by cases hq) dJ3_checkIndex_8e157_17 B.notSynchronized

theorem s_chk (l : Launch) {x y : Int32} (h0 : ¬ x < 0) (h1 : x < y) : MetS l G A mSchk [Value.int x, Value.int y] none := by
  refine Met.ofW (cc := mSchk.2.1) (maxL := mSchk.2.2.1) (ret := mSchk.2.2.2.1) (by decide +kernel) rfl ?_
  intro p e s m args below meth c s₁ B hml hv
  obtain ⟨rfl, hX⟩ := hv
  have hts : ∀ w ∈ wsOf mSchk, w.before _ s = true := atoms_spec (ws := wsOf mSchk) B.pre
  have htb : ∀ w ∈ TB, w.before _ s = true := fun w hw => hts w (List.mem_cons_of_mem _ hw)
  have hown := findClass_of_methodNamed B.named
  have S : CallFix p m c mSchk.2.1 mSchk.2.2.1 s _ TB mSchk.1.cls := ⟨B.exec, B.bytes, hml, hown, htb⟩
  rw [lg_entry_eq]
  obtain ⟨w, hw, hZ⟩ := hX.1.2.2
  have hl := lv_entry [Value.int x, Value.int y] (n := mSchk.2.2.1) (Nat.le_of_ble_eq_true rfl)
  generalize ((lg_sl [Value.int x, Value.int y] ++ List.replicate (mSchk.2.2.1 - (lg_sl [Value.int x, Value.int y]).length) Slot.unset).toArray) = ls at *
  refine lv_iload_n B.exec B.bytes dJ0_checkIndex_df160_0 rfl (lv_at hl 0 rfl) ?_
  refine lv_iload_n B.exec B.bytes dJ0_checkIndex_df160_1 rfl (lv_at hl 1 rfl) ?_
  refine va_gets B.exec B.bytes hZ va_S.rf hown (htb _ (tb_3 183 rfl rfl)) (fun x h => h) dJ0_checkIndex_df160_2 ?_
  refine s_static (M := mSchk) (N := mSpre) (As := [Value.int x, Value.int y, w]) S (s_pre l hw h0 h1) mvSpre (tb_3 185 rfl rfl) ⟨Nat.le_refl _, by decide⟩ va_S.rf hX rfl hl.1 rfl (by simp) dJ0_checkIndex_df160_5 ⟨Nat.le_refl _, Nat.le_refl _⟩ ?_
  refine lv_pop B.exec B.bytes dJ0_checkIndex_df160_8 rfl ?_
  exact W.vret B.exec B.bytes B.returns (fun t ht _ => ⟨rfl, ht⟩) (fun q hq => by cases hq) dJ0_checkIndex_df160_9 B.notSynchronized

theorem s_l1 (l : Launch) {i : Nat} (hi : i < 11) {x : Int32} (h0 : ¬ x < 0) (h1 : x < Int32.ofNat (strLen.getD i 0)) : MetS l G A mSl1 [Value.ref (G.2.2.2.2.2 i), Value.int x] (some (.int ((strByt.getD i []).getD x.toNatClampNeg 0))) := by
  refine Met.ofW (cc := mSl1.2.1) (maxL := mSl1.2.2.1) (ret := mSl1.2.2.2.1) (by decide +kernel) rfl ?_
  intro p e s m args below meth c s₁ B hml hv
  obtain ⟨rfl, hX⟩ := hv
  have hts : ∀ w ∈ wsOf mSl1, w.before _ s = true := atoms_spec (ws := wsOf mSl1) B.pre
  have htb : ∀ w ∈ TB, w.before _ s = true := fun w hw => hts w (List.mem_cons_of_mem _ hw)
  have hown := findClass_of_methodNamed B.named
  have S : CallFix p m c mSl1.2.1 mSl1.2.2.1 s _ TB mSl1.1.cls := ⟨B.exec, B.bytes, hml, hown, htb⟩
  rw [lg_entry_eq]
  obtain ⟨g1, g2, g3, g4⟩ := hX.1.1.1 i hi
  have hl := lv_entry [Value.ref (G.2.2.2.2.2 i), Value.int x] (n := mSl1.2.2.1) (Nat.le_of_ble_eq_true rfl)
  generalize ((lg_sl [Value.ref (G.2.2.2.2.2 i), Value.int x] ++ List.replicate (mSl1.2.2.1 - (lg_sl [Value.ref (G.2.2.2.2.2 i), Value.int x]).length) Slot.unset).toArray) = ls at *
  have hq := len_all i hi
  have hx0 : 0 ≤ x.toInt := by
    have : ¬ x.toInt < (0 : Int32).toInt := fun z => h0 (i32_lt.mpr z)
    simpa using this
  have hx1 : x.toInt < ((strLen.getD i 0 : Nat) : Int) := by rw [← hq.2.1]; exact i32_lt.mp h1
  have hx2 : x.toNatClampNeg < 10 := by rw [clamp_e]; omega
  refine lv_iload_n B.exec B.bytes dJ1_charAt_3b067_0 rfl (lv_at hl 1 rfl) ?_
  refine lv_aload_n B.exec B.bytes dJ1_charAt_3b067_1 rfl (lv_at hl 0 rfl) ?_
  refine va_tlen B.exec B.bytes g4 va_S.rf rfl dJ1_charAt_3b067_2 ?_
  refine s_static (M := mSl1) (N := mSchk) (As := [Value.int x, Value.int (Int32.ofNat (strLen.getD i 0))]) S (s_chk l h0 h1) mvSchk (tb_3 180 rfl rfl) ⟨Nat.le_refl _, by decide⟩ va_S.rf hX rfl hl.1 rfl (by simp) dJ1_charAt_3b067_3 ⟨Nat.le_refl _, Nat.le_refl _⟩ ?_
  refine lv_aload_n B.exec B.bytes dJ1_charAt_3b067_6 rfl (lv_at hl 0 rfl) ?_
  refine lv_iload_n B.exec B.bytes dJ1_charAt_3b067_7 rfl (lv_at hl 1 rfl) ?_
  refine va_tb B.exec B.bytes g4 va_S.rf (vp_in_of' hx0 hx1) rfl dJ1_charAt_3b067_8 ?_
  refine lv_sipush B.exec B.bytes dJ1_charAt_3b067_9 rfl ?_
  refine lv_iand B.exec B.bytes dJ1_charAt_3b067_12 ?_
  refine lv_i2c B.exec B.bytes dJ1_charAt_3b067_13 (chr_all i hi _ hx2).1 ?_
  exact W.zret B.exec B.bytes B.returns (chr_all i hi _ hx2).2 (fun t ht _ => ⟨rfl, ht⟩) (fun q hq => by cases hq) dJ1_charAt_3b067_14 B.notSynchronized

theorem s_charAt (l : Launch) {i : Nat} (hi : i < 11) {x : Int32} (h0 : ¬ x < 0) (h1 : x < Int32.ofNat (strLen.getD i 0)) : MetS l G A mScha [Value.ref (G.2.2.1 1001 i), Value.int x] (some (.int ((strByt.getD i []).getD x.toNatClampNeg 0))) := by
  refine Met.ofW (cc := mScha.2.1) (maxL := mScha.2.2.1) (ret := mScha.2.2.2.1) (by decide +kernel) rfl ?_
  intro p e s m args below meth c s₁ B hml hv
  obtain ⟨rfl, hX⟩ := hv
  have hts : ∀ w ∈ wsOf mScha, w.before _ s = true := atoms_spec (ws := wsOf mScha) B.pre
  have htb : ∀ w ∈ TB, w.before _ s = true := fun w hw => hts w (List.mem_cons_of_mem _ hw)
  have hown := findClass_of_methodNamed B.named
  have S : CallFix p m c mScha.2.1 mScha.2.2.1 s _ TB mScha.1.cls := ⟨B.exec, B.bytes, hml, hown, htb⟩
  rw [lg_entry_eq]
  obtain ⟨g1, g2, g3, g4⟩ := hX.1.1.1 i hi
  have hl := lv_entry [Value.ref (G.2.2.1 1001 i), Value.int x] (n := mScha.2.2.1) (Nat.le_of_ble_eq_true rfl)
  generalize ((lg_sl [Value.ref (G.2.2.1 1001 i), Value.int x] ++ List.replicate (mScha.2.2.1 - (lg_sl [Value.ref (G.2.2.1 1001 i), Value.int x]).length) Slot.unset).toArray) = ls at *
  have hq := len_all i hi
  have hx0 : 0 ≤ x.toInt := by
    have : ¬ x.toInt < (0 : Int32).toInt := fun z => h0 (i32_lt.mpr z)
    simpa using this
  have hx1 : x.toInt < ((strLen.getD i 0 : Nat) : Int) := by rw [← hq.2.1]; exact i32_lt.mp h1
  have hx2 : x.toNatClampNeg < 10 := by rw [clamp_e]; omega
  refine lv_aload_n B.exec B.bytes dJ0_charAt_5068e_0 rfl (lv_at hl 0 rfl) ?_
  refine s_virt (M := mScha) (N := mSlat) (As := []) hi S (s_latin l hi) mvSlat rfl (tb_3 173 rfl rfl) ⟨by decide, by decide⟩ va_S.rf hX rfl hl.1 rfl (by simp) dJ0_charAt_5068e_1 ⟨Nat.le_refl _, Nat.le_refl _⟩ ?_
  refine lv_if_eq B.exec B.bytes (tgt := 16) dJ0_charAt_5068e_4 (by decide) (fun h => absurd h (by decide)) (fun _ => ?_)
  refine lv_aload_n B.exec B.bytes dJ0_charAt_5068e_7 rfl (lv_at hl 0 rfl) ?_
  refine vk_getf B.exec B.bytes g3 va_S.rf hown (htb _ (tb_9 163 rfl rfl)) (fun x h => h) dJ0_charAt_5068e_8 ?_
  refine lv_iload_n B.exec B.bytes dJ0_charAt_5068e_11 rfl (lv_at hl 1 rfl) ?_
  refine s_static (M := mScha) (N := mSl1) (As := [Value.ref (G.2.2.2.2.2 i), Value.int x]) S (s_l1 l hi h0 h1) mvSl1 (tb_3 177 rfl rfl) ⟨Nat.le_refl _, by decide⟩ va_S.rf hX rfl hl.1 rfl (by simp) dJ0_charAt_5068e_12 ⟨Nat.le_refl _, Nat.le_refl _⟩ ?_
  exact W.zret B.exec B.bytes B.returns (chr_all i hi _ hx2).2 (fun t ht _ => ⟨rfl, ht⟩) (fun q hq => by cases hq) dJ0_charAt_5068e_15 B.notSynchronized
end Str2

section Str3
variable {M : MI} {pc : Nat} {als ast : List AV} {σ : St} {Q : Res → St → Prop}
theorem wp_strlen {idx j : Nat} (hd : decode M.2.1 pc = .ok (.invokevirtual idx, 3)) (hm : Cond.methodLink M.1.cls idx yJ0_length_8abf5 ∈ TB) (hrk : 3 < M.2.2.2.2) (hca : (ast.map cat).sum ≤ 8) (hj : j < 11) (k : WP M (pc + 3) als (vI ((strLen.getD j 0 : Nat) : Int) :: ast) σ Q) : WP M pc als (vR 1001 j :: ast) σ Q := by
  intro G A p l e R s mid args below meth c cells slots Z hC hX hE H locs ls st hW hl hs
  obtain ⟨st1, rfl, -, hs1⟩ := rs_R hs
  have h9 := hC.2.2.2.2.2.2.2.2.1
  have h10 := hC.2.2.2.2.2.2.2.2.2.1
  obtain ⟨lv, gl, -⟩ := id hl
  refine s_virt (M := M) (N := mSlen) (G := G) (A := A) (As := []) hj ⟨hC.1, hC.2.1, hC.2.2.1, hC.2.2.2.1, hC.2.2.2.2.1⟩ (s_length l hj) mvSlen rfl hm ⟨by show 1 + 1 ≤ R.frames; omega, by show 8 + (1 + 11) + 39 * 1 ≤ R.locals; omega⟩ hW.2.2.1 hC.2.2.2.2.2.2.2.2.2.2.2 rfl gl.1 rfl (by rw [rs_cat ast st1 hs1]; exact hca) hd hX.2 ?_
  exact k G A p l e R s mid args below meth c cells slots Z hC hX hE H locs ls _ hW hl ⟨⟨_, rfl, (len_all j hj).2.1⟩, hs1⟩
theorem wp_charAt {idx j : Nat} {x : Int} (hd : decode M.2.1 pc = .ok (.invokevirtual idx, 3)) (hm : Cond.methodLink M.1.cls idx yJ0_charAt_5068e ∈ TB) (hrk : 3 < M.2.2.2.2) (hca : (ast.map cat).sum ≤ 8) (hj : j < 11) (h0 : 0 ≤ x) (h1 : x < ((strLen.getD j 0 : Nat) : Int)) (k : WP M (pc + 3) als (vI (chr j x.toNat) :: ast) σ Q) : WP M pc als (vI x :: vR 1001 j :: ast) σ Q := by
  intro G A p l e R s mid args below meth c cells slots Z hC hX hE H locs ls st hW hl hs
  obtain ⟨y, st0, rfl, rfl, hs0⟩ := rs_I hs
  obtain ⟨st1, rfl, -, hs1⟩ := rs_R hs0
  have h9 := hC.2.2.2.2.2.2.2.2.1
  have h10 := hC.2.2.2.2.2.2.2.2.2.1
  obtain ⟨lv, gl, -⟩ := id hl
  have g0 : ¬ y < 0 := fun q => by
    have := i32_lt.mp q
    simp at this
    omega
  have g1 : y < Int32.ofNat (strLen.getD j 0) := i32_lt.mpr (by rw [(len_all j hj).2.1]; exact h1)
  refine s_virt (M := M) (N := mScha) (G := G) (A := A) (As := [Value.int y]) hj ⟨hC.1, hC.2.1, hC.2.2.1, hC.2.2.2.1, hC.2.2.2.2.1⟩ (s_charAt l hj g0 g1) mvScha rfl hm ⟨by show 3 + 1 ≤ R.frames; omega, by show 8 + (2 + 11) + 39 * 3 ≤ R.locals; omega⟩ hW.2.2.1 hC.2.2.2.2.2.2.2.2.2.2.2 rfl gl.1 rfl (by rw [rs_cat ast st1 hs1]; exact hca) hd hX.2 ?_
  exact k G A p l e R s mid args below meth c cells slots Z hC hX hE H locs ls _ hW hl ⟨⟨_, rfl, rfl⟩, hs1⟩
end Str3
