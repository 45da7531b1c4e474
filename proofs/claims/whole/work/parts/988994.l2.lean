/-! ===== what the Statement gives at the start ===== -/
def fl1 : List Cond := flatC (Jvm.Cond.and given_1 narrow_1)
def krd (i : Nat) : Nat := [108, 117, 122, 127, 132, 137, 145, 150, 185, 189, 191].getD i 0
abbrev trd (i : Nat) : Term := Term.string "CustomValley$Reader" (krd i)
section Start
variable {s : State} {ar : Array Value} {A : Nat → Prop}
theorem fx (hs : ∀ c ∈ fl1, c.before ar s = true) (n : Nat) {w : Cond} (h : fl1[n]? = some w) : w.before ar s = true := hs _ (List.mem_of_getElem? h)
theorem fs_ex (hs : ∀ c ∈ fl1, c.before ar s = true) (i : Nat) (hi : i < 11) : (Cond.exactly (trd i) "java/lang/String").before ar s = true := match i, hi with
  | 0, _ => fx hs 24 (by decide +kernel)
  | 1, _ => fx hs 34 (by decide +kernel)
  | 2, _ => fx hs 45 (by decide +kernel)
  | 3, _ => fx hs 56 (by decide +kernel)
  | 4, _ => fx hs 68 (by decide +kernel)
  | 5, _ => fx hs 124 (by decide +kernel)
  | 6, _ => fx hs 141 (by decide +kernel)
  | 7, _ => fx hs 159 (by decide +kernel)
  | 8, _ => fx hs 82 (by decide +kernel)
  | 9, _ => fx hs 95 (by decide +kernel)
  | 10, _ => fx hs 109 (by decide +kernel)
  | i + 11, h => absurd h (by omega)
theorem fs_co (hs : ∀ c ∈ fl1, c.before ar s = true) (i : Nat) (hi : i < 11) : (Cond.eq (.field (trd i) "java/lang/String" "coder" "B") (.int 0)).before ar s = true := match i, hi with
  | 0, _ => fx hs 25 (by decide +kernel)
  | 1, _ => fx hs 35 (by decide +kernel)
  | 2, _ => fx hs 46 (by decide +kernel)
  | 3, _ => fx hs 57 (by decide +kernel)
  | 4, _ => fx hs 69 (by decide +kernel)
  | 5, _ => fx hs 125 (by decide +kernel)
  | 6, _ => fx hs 142 (by decide +kernel)
  | 7, _ => fx hs 160 (by decide +kernel)
  | 8, _ => fx hs 83 (by decide +kernel)
  | 9, _ => fx hs 96 (by decide +kernel)
  | 10, _ => fx hs 110 (by decide +kernel)
  | i + 11, h => absurd h (by omega)
theorem fs_ar (hs : ∀ c ∈ fl1, c.before ar s = true) (i : Nat) (hi : i < 11) : (Cond.arrayOf (.field (trd i) "java/lang/String" "value" "[B") .byte).before ar s = true := match i, hi with
  | 0, _ => fx hs 26 (by decide +kernel)
  | 1, _ => fx hs 36 (by decide +kernel)
  | 2, _ => fx hs 47 (by decide +kernel)
  | 3, _ => fx hs 58 (by decide +kernel)
  | 4, _ => fx hs 70 (by decide +kernel)
  | 5, _ => fx hs 126 (by decide +kernel)
  | 6, _ => fx hs 143 (by decide +kernel)
  | 7, _ => fx hs 161 (by decide +kernel)
  | 8, _ => fx hs 84 (by decide +kernel)
  | 9, _ => fx hs 97 (by decide +kernel)
  | 10, _ => fx hs 111 (by decide +kernel)
  | i + 11, h => absurd h (by omega)
theorem fs_le (hs : ∀ c ∈ fl1, c.before ar s = true) (i : Nat) (hi : i < 11) : (Cond.eq (.length (.field (trd i) "java/lang/String" "value" "[B")) (.int (Int32.ofNat (strLen.getD i 0)))).before ar s = true := match i, hi with
  | 0, _ => fx hs 27 (by decide +kernel)
  | 1, _ => fx hs 37 (by decide +kernel)
  | 2, _ => fx hs 48 (by decide +kernel)
  | 3, _ => fx hs 59 (by decide +kernel)
  | 4, _ => fx hs 71 (by decide +kernel)
  | 5, _ => fx hs 127 (by decide +kernel)
  | 6, _ => fx hs 144 (by decide +kernel)
  | 7, _ => fx hs 162 (by decide +kernel)
  | 8, _ => fx hs 85 (by decide +kernel)
  | 9, _ => fx hs 98 (by decide +kernel)
  | 10, _ => fx hs 112 (by decide +kernel)
  | i + 11, h => absurd h (by omega)
theorem fs_el0 (hs : ∀ c ∈ fl1, c.before ar s = true) (j : Nat) (hj : j < 6) : (Cond.eq (.elem (.field (trd 0) "java/lang/String" "value" "[B") (.int (Int32.ofNat j))) (.int ((strByt.getD 0 []).getD j 0))).before ar s = true := match j, hj with
  | 0, _ => fx hs 28 (by decide +kernel)
  | 1, _ => fx hs 29 (by decide +kernel)
  | 2, _ => fx hs 30 (by decide +kernel)
  | 3, _ => fx hs 31 (by decide +kernel)
  | 4, _ => fx hs 32 (by decide +kernel)
  | 5, _ => fx hs 33 (by decide +kernel)
  | j + 6, h => absurd h (by omega)
theorem fs_el1 (hs : ∀ c ∈ fl1, c.before ar s = true) (j : Nat) (hj : j < 6) : (Cond.eq (.elem (.field (trd 1) "java/lang/String" "value" "[B") (.int (Int32.ofNat j))) (.int ((strByt.getD 1 []).getD j 0))).before ar s = true := match j, hj with
  | 0, _ => fx hs 38 (by decide +kernel)
  | 1, _ => fx hs 39 (by decide +kernel)
  | 2, _ => fx hs 40 (by decide +kernel)
  | 3, _ => fx hs 41 (by decide +kernel)
  | 4, _ => fx hs 42 (by decide +kernel)
  | 5, _ => fx hs 43 (by decide +kernel)
  | j + 6, h => absurd h (by omega)
theorem fs_el2 (hs : ∀ c ∈ fl1, c.before ar s = true) (j : Nat) (hj : j < 5) : (Cond.eq (.elem (.field (trd 2) "java/lang/String" "value" "[B") (.int (Int32.ofNat j))) (.int ((strByt.getD 2 []).getD j 0))).before ar s = true := match j, hj with
  | 0, _ => fx hs 49 (by decide +kernel)
  | 1, _ => fx hs 50 (by decide +kernel)
  | 2, _ => fx hs 51 (by decide +kernel)
  | 3, _ => fx hs 52 (by decide +kernel)
  | 4, _ => fx hs 53 (by decide +kernel)
  | j + 5, h => absurd h (by omega)
theorem fs_el3 (hs : ∀ c ∈ fl1, c.before ar s = true) (j : Nat) (hj : j < 5) : (Cond.eq (.elem (.field (trd 3) "java/lang/String" "value" "[B") (.int (Int32.ofNat j))) (.int ((strByt.getD 3 []).getD j 0))).before ar s = true := match j, hj with
  | 0, _ => fx hs 60 (by decide +kernel)
  | 1, _ => fx hs 61 (by decide +kernel)
  | 2, _ => fx hs 62 (by decide +kernel)
  | 3, _ => fx hs 63 (by decide +kernel)
  | 4, _ => fx hs 64 (by decide +kernel)
  | j + 5, h => absurd h (by omega)
theorem fs_el4 (hs : ∀ c ∈ fl1, c.before ar s = true) (j : Nat) (hj : j < 6) : (Cond.eq (.elem (.field (trd 4) "java/lang/String" "value" "[B") (.int (Int32.ofNat j))) (.int ((strByt.getD 4 []).getD j 0))).before ar s = true := match j, hj with
  | 0, _ => fx hs 72 (by decide +kernel)
  | 1, _ => fx hs 73 (by decide +kernel)
  | 2, _ => fx hs 74 (by decide +kernel)
  | 3, _ => fx hs 75 (by decide +kernel)
  | 4, _ => fx hs 76 (by decide +kernel)
  | 5, _ => fx hs 77 (by decide +kernel)
  | j + 6, h => absurd h (by omega)
theorem fs_el5 (hs : ∀ c ∈ fl1, c.before ar s = true) (j : Nat) (hj : j < 5) : (Cond.eq (.elem (.field (trd 5) "java/lang/String" "value" "[B") (.int (Int32.ofNat j))) (.int ((strByt.getD 5 []).getD j 0))).before ar s = true := match j, hj with
  | 0, _ => fx hs 128 (by decide +kernel)
  | 1, _ => fx hs 129 (by decide +kernel)
  | 2, _ => fx hs 130 (by decide +kernel)
  | 3, _ => fx hs 131 (by decide +kernel)
  | 4, _ => fx hs 132 (by decide +kernel)
  | j + 5, h => absurd h (by omega)
theorem fs_el6 (hs : ∀ c ∈ fl1, c.before ar s = true) (j : Nat) (hj : j < 5) : (Cond.eq (.elem (.field (trd 6) "java/lang/String" "value" "[B") (.int (Int32.ofNat j))) (.int ((strByt.getD 6 []).getD j 0))).before ar s = true := match j, hj with
  | 0, _ => fx hs 145 (by decide +kernel)
  | 1, _ => fx hs 146 (by decide +kernel)
  | 2, _ => fx hs 147 (by decide +kernel)
  | 3, _ => fx hs 148 (by decide +kernel)
  | 4, _ => fx hs 149 (by decide +kernel)
  | j + 5, h => absurd h (by omega)
theorem fs_el7 (hs : ∀ c ∈ fl1, c.before ar s = true) (j : Nat) (hj : j < 4) : (Cond.eq (.elem (.field (trd 7) "java/lang/String" "value" "[B") (.int (Int32.ofNat j))) (.int ((strByt.getD 7 []).getD j 0))).before ar s = true := match j, hj with
  | 0, _ => fx hs 163 (by decide +kernel)
  | 1, _ => fx hs 164 (by decide +kernel)
  | 2, _ => fx hs 165 (by decide +kernel)
  | 3, _ => fx hs 166 (by decide +kernel)
  | j + 4, h => absurd h (by omega)
theorem fs_el8 (hs : ∀ c ∈ fl1, c.before ar s = true) (j : Nat) (hj : j < 4) : (Cond.eq (.elem (.field (trd 8) "java/lang/String" "value" "[B") (.int (Int32.ofNat j))) (.int ((strByt.getD 8 []).getD j 0))).before ar s = true := match j, hj with
  | 0, _ => fx hs 86 (by decide +kernel)
  | 1, _ => fx hs 87 (by decide +kernel)
  | 2, _ => fx hs 88 (by decide +kernel)
  | 3, _ => fx hs 89 (by decide +kernel)
  | j + 4, h => absurd h (by omega)
theorem fs_el9 (hs : ∀ c ∈ fl1, c.before ar s = true) (j : Nat) (hj : j < 4) : (Cond.eq (.elem (.field (trd 9) "java/lang/String" "value" "[B") (.int (Int32.ofNat j))) (.int ((strByt.getD 9 []).getD j 0))).before ar s = true := match j, hj with
  | 0, _ => fx hs 99 (by decide +kernel)
  | 1, _ => fx hs 100 (by decide +kernel)
  | 2, _ => fx hs 101 (by decide +kernel)
  | 3, _ => fx hs 102 (by decide +kernel)
  | j + 4, h => absurd h (by omega)
theorem fs_el10 (hs : ∀ c ∈ fl1, c.before ar s = true) (j : Nat) (hj : j < 4) : (Cond.eq (.elem (.field (trd 10) "java/lang/String" "value" "[B") (.int (Int32.ofNat j))) (.int ((strByt.getD 10 []).getD j 0))).before ar s = true := match j, hj with
  | 0, _ => fx hs 113 (by decide +kernel)
  | 1, _ => fx hs 114 (by decide +kernel)
  | 2, _ => fx hs 115 (by decide +kernel)
  | 3, _ => fx hs 116 (by decide +kernel)
  | j + 4, h => absurd h (by omega)
theorem fs_el (hs : ∀ c ∈ fl1, c.before ar s = true) (i : Nat) (hi : i < 11) : ∀ j : Nat, j < strLen.getD i 0 → (Cond.eq (.elem (.field (trd i) "java/lang/String" "value" "[B") (.int (Int32.ofNat j))) (.int ((strByt.getD i []).getD j 0))).before ar s = true := match i, hi with
  | 0, _ => fs_el0 hs
  | 1, _ => fs_el1 hs
  | 2, _ => fs_el2 hs
  | 3, _ => fs_el3 hs
  | 4, _ => fs_el4 hs
  | 5, _ => fs_el5 hs
  | 6, _ => fs_el6 hs
  | 7, _ => fs_el7 hs
  | 8, _ => fs_el8 hs
  | 9, _ => fs_el9 hs
  | 10, _ => fs_el10 hs
  | i + 11, h => absurd h (by omega)
theorem fs_ne0 (hs : ∀ c ∈ fl1, c.before ar s = true) (j : Nat) (hj : j < 11) (hne : 0 ≠ j) : (Cond.not (Cond.eq (trd 0) (trd j))).before ar s = true ∨ (Cond.not (Cond.eq (trd j) (trd 0))).before ar s = true := match j, hj, hne with
  | 0, _, h => absurd rfl h
  | 1, _, _ => Or.inl (fx hs 44 (by decide +kernel))
  | 2, _, _ => Or.inl (fx hs 54 (by decide +kernel))
  | 3, _, _ => Or.inl (fx hs 65 (by decide +kernel))
  | 4, _, _ => Or.inl (fx hs 78 (by decide +kernel))
  | 5, _, _ => Or.inl (fx hs 133 (by decide +kernel))
  | 6, _, _ => Or.inl (fx hs 150 (by decide +kernel))
  | 7, _, _ => Or.inl (fx hs 167 (by decide +kernel))
  | 8, _, _ => Or.inl (fx hs 90 (by decide +kernel))
  | 9, _, _ => Or.inl (fx hs 103 (by decide +kernel))
  | 10, _, _ => Or.inl (fx hs 117 (by decide +kernel))
  | j + 11, h, _ => absurd h (by omega)
theorem fs_ne1 (hs : ∀ c ∈ fl1, c.before ar s = true) (j : Nat) (hj : j < 11) (hne : 1 ≠ j) : (Cond.not (Cond.eq (trd 1) (trd j))).before ar s = true ∨ (Cond.not (Cond.eq (trd j) (trd 1))).before ar s = true := match j, hj, hne with
  | 0, _, _ => Or.inr (fx hs 44 (by decide +kernel))
  | 1, _, h => absurd rfl h
  | 2, _, _ => Or.inl (fx hs 55 (by decide +kernel))
  | 3, _, _ => Or.inl (fx hs 66 (by decide +kernel))
  | 4, _, _ => Or.inl (fx hs 79 (by decide +kernel))
  | 5, _, _ => Or.inl (fx hs 134 (by decide +kernel))
  | 6, _, _ => Or.inl (fx hs 151 (by decide +kernel))
  | 7, _, _ => Or.inl (fx hs 168 (by decide +kernel))
  | 8, _, _ => Or.inl (fx hs 91 (by decide +kernel))
  | 9, _, _ => Or.inl (fx hs 104 (by decide +kernel))
  | 10, _, _ => Or.inl (fx hs 118 (by decide +kernel))
  | j + 11, h, _ => absurd h (by omega)
theorem fs_ne2 (hs : ∀ c ∈ fl1, c.before ar s = true) (j : Nat) (hj : j < 11) (hne : 2 ≠ j) : (Cond.not (Cond.eq (trd 2) (trd j))).before ar s = true ∨ (Cond.not (Cond.eq (trd j) (trd 2))).before ar s = true := match j, hj, hne with
  | 0, _, _ => Or.inr (fx hs 54 (by decide +kernel))
  | 1, _, _ => Or.inr (fx hs 55 (by decide +kernel))
  | 2, _, h => absurd rfl h
  | 3, _, _ => Or.inl (fx hs 67 (by decide +kernel))
  | 4, _, _ => Or.inl (fx hs 80 (by decide +kernel))
  | 5, _, _ => Or.inl (fx hs 135 (by decide +kernel))
  | 6, _, _ => Or.inl (fx hs 152 (by decide +kernel))
  | 7, _, _ => Or.inl (fx hs 169 (by decide +kernel))
  | 8, _, _ => Or.inl (fx hs 92 (by decide +kernel))
  | 9, _, _ => Or.inl (fx hs 105 (by decide +kernel))
  | 10, _, _ => Or.inl (fx hs 119 (by decide +kernel))
  | j + 11, h, _ => absurd h (by omega)
theorem fs_ne3 (hs : ∀ c ∈ fl1, c.before ar s = true) (j : Nat) (hj : j < 11) (hne : 3 ≠ j) : (Cond.not (Cond.eq (trd 3) (trd j))).before ar s = true ∨ (Cond.not (Cond.eq (trd j) (trd 3))).before ar s = true := match j, hj, hne with
  | 0, _, _ => Or.inr (fx hs 65 (by decide +kernel))
  | 1, _, _ => Or.inr (fx hs 66 (by decide +kernel))
  | 2, _, _ => Or.inr (fx hs 67 (by decide +kernel))
  | 3, _, h => absurd rfl h
  | 4, _, _ => Or.inl (fx hs 81 (by decide +kernel))
  | 5, _, _ => Or.inl (fx hs 136 (by decide +kernel))
  | 6, _, _ => Or.inl (fx hs 153 (by decide +kernel))
  | 7, _, _ => Or.inl (fx hs 170 (by decide +kernel))
  | 8, _, _ => Or.inl (fx hs 93 (by decide +kernel))
  | 9, _, _ => Or.inl (fx hs 106 (by decide +kernel))
  | 10, _, _ => Or.inl (fx hs 120 (by decide +kernel))
  | j + 11, h, _ => absurd h (by omega)
theorem fs_ne4 (hs : ∀ c ∈ fl1, c.before ar s = true) (j : Nat) (hj : j < 11) (hne : 4 ≠ j) : (Cond.not (Cond.eq (trd 4) (trd j))).before ar s = true ∨ (Cond.not (Cond.eq (trd j) (trd 4))).before ar s = true := match j, hj, hne with
  | 0, _, _ => Or.inr (fx hs 78 (by decide +kernel))
  | 1, _, _ => Or.inr (fx hs 79 (by decide +kernel))
  | 2, _, _ => Or.inr (fx hs 80 (by decide +kernel))
  | 3, _, _ => Or.inr (fx hs 81 (by decide +kernel))
  | 4, _, h => absurd rfl h
  | 5, _, _ => Or.inl (fx hs 137 (by decide +kernel))
  | 6, _, _ => Or.inl (fx hs 154 (by decide +kernel))
  | 7, _, _ => Or.inl (fx hs 171 (by decide +kernel))
  | 8, _, _ => Or.inl (fx hs 94 (by decide +kernel))
  | 9, _, _ => Or.inl (fx hs 107 (by decide +kernel))
  | 10, _, _ => Or.inl (fx hs 121 (by decide +kernel))
  | j + 11, h, _ => absurd h (by omega)
theorem fs_ne5 (hs : ∀ c ∈ fl1, c.before ar s = true) (j : Nat) (hj : j < 11) (hne : 5 ≠ j) : (Cond.not (Cond.eq (trd 5) (trd j))).before ar s = true ∨ (Cond.not (Cond.eq (trd j) (trd 5))).before ar s = true := match j, hj, hne with
  | 0, _, _ => Or.inr (fx hs 133 (by decide +kernel))
  | 1, _, _ => Or.inr (fx hs 134 (by decide +kernel))
  | 2, _, _ => Or.inr (fx hs 135 (by decide +kernel))
  | 3, _, _ => Or.inr (fx hs 136 (by decide +kernel))
  | 4, _, _ => Or.inr (fx hs 137 (by decide +kernel))
  | 5, _, h => absurd rfl h
  | 6, _, _ => Or.inl (fx hs 158 (by decide +kernel))
  | 7, _, _ => Or.inl (fx hs 175 (by decide +kernel))
  | 8, _, _ => Or.inr (fx hs 138 (by decide +kernel))
  | 9, _, _ => Or.inr (fx hs 139 (by decide +kernel))
  | 10, _, _ => Or.inr (fx hs 140 (by decide +kernel))
  | j + 11, h, _ => absurd h (by omega)
theorem fs_ne6 (hs : ∀ c ∈ fl1, c.before ar s = true) (j : Nat) (hj : j < 11) (hne : 6 ≠ j) : (Cond.not (Cond.eq (trd 6) (trd j))).before ar s = true ∨ (Cond.not (Cond.eq (trd j) (trd 6))).before ar s = true := match j, hj, hne with
  | 0, _, _ => Or.inr (fx hs 150 (by decide +kernel))
  | 1, _, _ => Or.inr (fx hs 151 (by decide +kernel))
  | 2, _, _ => Or.inr (fx hs 152 (by decide +kernel))
  | 3, _, _ => Or.inr (fx hs 153 (by decide +kernel))
  | 4, _, _ => Or.inr (fx hs 154 (by decide +kernel))
  | 5, _, _ => Or.inr (fx hs 158 (by decide +kernel))
  | 6, _, h => absurd rfl h
  | 7, _, _ => Or.inl (fx hs 176 (by decide +kernel))
  | 8, _, _ => Or.inr (fx hs 155 (by decide +kernel))
  | 9, _, _ => Or.inr (fx hs 156 (by decide +kernel))
  | 10, _, _ => Or.inr (fx hs 157 (by decide +kernel))
  | j + 11, h, _ => absurd h (by omega)
theorem fs_ne7 (hs : ∀ c ∈ fl1, c.before ar s = true) (j : Nat) (hj : j < 11) (hne : 7 ≠ j) : (Cond.not (Cond.eq (trd 7) (trd j))).before ar s = true ∨ (Cond.not (Cond.eq (trd j) (trd 7))).before ar s = true := match j, hj, hne with
  | 0, _, _ => Or.inr (fx hs 167 (by decide +kernel))
  | 1, _, _ => Or.inr (fx hs 168 (by decide +kernel))
  | 2, _, _ => Or.inr (fx hs 169 (by decide +kernel))
  | 3, _, _ => Or.inr (fx hs 170 (by decide +kernel))
  | 4, _, _ => Or.inr (fx hs 171 (by decide +kernel))
  | 5, _, _ => Or.inr (fx hs 175 (by decide +kernel))
  | 6, _, _ => Or.inr (fx hs 176 (by decide +kernel))
  | 7, _, h => absurd rfl h
  | 8, _, _ => Or.inr (fx hs 172 (by decide +kernel))
  | 9, _, _ => Or.inr (fx hs 173 (by decide +kernel))
  | 10, _, _ => Or.inr (fx hs 174 (by decide +kernel))
  | j + 11, h, _ => absurd h (by omega)
theorem fs_ne8 (hs : ∀ c ∈ fl1, c.before ar s = true) (j : Nat) (hj : j < 11) (hne : 8 ≠ j) : (Cond.not (Cond.eq (trd 8) (trd j))).before ar s = true ∨ (Cond.not (Cond.eq (trd j) (trd 8))).before ar s = true := match j, hj, hne with
  | 0, _, _ => Or.inr (fx hs 90 (by decide +kernel))
  | 1, _, _ => Or.inr (fx hs 91 (by decide +kernel))
  | 2, _, _ => Or.inr (fx hs 92 (by decide +kernel))
  | 3, _, _ => Or.inr (fx hs 93 (by decide +kernel))
  | 4, _, _ => Or.inr (fx hs 94 (by decide +kernel))
  | 5, _, _ => Or.inl (fx hs 138 (by decide +kernel))
  | 6, _, _ => Or.inl (fx hs 155 (by decide +kernel))
  | 7, _, _ => Or.inl (fx hs 172 (by decide +kernel))
  | 8, _, h => absurd rfl h
  | 9, _, _ => Or.inl (fx hs 108 (by decide +kernel))
  | 10, _, _ => Or.inl (fx hs 122 (by decide +kernel))
  | j + 11, h, _ => absurd h (by omega)
theorem fs_ne9 (hs : ∀ c ∈ fl1, c.before ar s = true) (j : Nat) (hj : j < 11) (hne : 9 ≠ j) : (Cond.not (Cond.eq (trd 9) (trd j))).before ar s = true ∨ (Cond.not (Cond.eq (trd j) (trd 9))).before ar s = true := match j, hj, hne with
  | 0, _, _ => Or.inr (fx hs 103 (by decide +kernel))
  | 1, _, _ => Or.inr (fx hs 104 (by decide +kernel))
  | 2, _, _ => Or.inr (fx hs 105 (by decide +kernel))
  | 3, _, _ => Or.inr (fx hs 106 (by decide +kernel))
  | 4, _, _ => Or.inr (fx hs 107 (by decide +kernel))
  | 5, _, _ => Or.inl (fx hs 139 (by decide +kernel))
  | 6, _, _ => Or.inl (fx hs 156 (by decide +kernel))
  | 7, _, _ => Or.inl (fx hs 173 (by decide +kernel))
  | 8, _, _ => Or.inr (fx hs 108 (by decide +kernel))
  | 9, _, h => absurd rfl h
  | 10, _, _ => Or.inl (fx hs 123 (by decide +kernel))
  | j + 11, h, _ => absurd h (by omega)
theorem fs_ne10 (hs : ∀ c ∈ fl1, c.before ar s = true) (j : Nat) (hj : j < 11) (hne : 10 ≠ j) : (Cond.not (Cond.eq (trd 10) (trd j))).before ar s = true ∨ (Cond.not (Cond.eq (trd j) (trd 10))).before ar s = true := match j, hj, hne with
  | 0, _, _ => Or.inr (fx hs 117 (by decide +kernel))
  | 1, _, _ => Or.inr (fx hs 118 (by decide +kernel))
  | 2, _, _ => Or.inr (fx hs 119 (by decide +kernel))
  | 3, _, _ => Or.inr (fx hs 120 (by decide +kernel))
  | 4, _, _ => Or.inr (fx hs 121 (by decide +kernel))
  | 5, _, _ => Or.inl (fx hs 140 (by decide +kernel))
  | 6, _, _ => Or.inl (fx hs 157 (by decide +kernel))
  | 7, _, _ => Or.inl (fx hs 174 (by decide +kernel))
  | 8, _, _ => Or.inr (fx hs 122 (by decide +kernel))
  | 9, _, _ => Or.inr (fx hs 123 (by decide +kernel))
  | 10, _, h => absurd rfl h
  | j + 11, h, _ => absurd h (by omega)
theorem fs_ne (hs : ∀ c ∈ fl1, c.before ar s = true) (i j : Nat) (hi : i < 11) (hj : j < 11) (hne : i ≠ j) : (Cond.not (Cond.eq (trd i) (trd j))).before ar s = true ∨ (Cond.not (Cond.eq (trd j) (trd i))).before ar s = true := match i, hi, hne with
  | 0, _, h => fs_ne0 hs j hj h
  | 1, _, h => fs_ne1 hs j hj h
  | 2, _, h => fs_ne2 hs j hj h
  | 3, _, h => fs_ne3 hs j hj h
  | 4, _, h => fs_ne4 hs j hj h
  | 5, _, h => fs_ne5 hs j hj h
  | 6, _, h => fs_ne6 hs j hj h
  | 7, _, h => fs_ne7 hs j hj h
  | 8, _, h => fs_ne8 hs j hj h
  | 9, _, h => fs_ne9 hs j hj h
  | 10, _, h => fs_ne10 hs j hj h
  | i + 11, h, _ => absurd h (by omega)
theorem fs_eq0 (hs : ∀ c ∈ fl1, c.before ar s = true) : (Cond.eq (trd 0) (Term.string "CustomValleyModel" 145)).before ar s = true := fx hs 187 (by decide +kernel)
theorem fs_eq1 (hs : ∀ c ∈ fl1, c.before ar s = true) : (Cond.eq (trd 1) (Term.string "CustomValleyModel" 149)).before ar s = true := fx hs 209 (by decide +kernel)
theorem fs_eq2 (hs : ∀ c ∈ fl1, c.before ar s = true) : (Cond.eq (trd 2) (Term.string "CustomValleyModel" 159)).before ar s = true := fx hs 349 (by decide +kernel)
theorem fs_eq3 (hs : ∀ c ∈ fl1, c.before ar s = true) : (Cond.eq (trd 3) (Term.string "CustomValleyModel" 161)).before ar s = true := fx hs 377 (by decide +kernel)
theorem fs_eq4 (hs : ∀ c ∈ fl1, c.before ar s = true) : (Cond.eq (trd 4) (Term.string "CustomValleyModel" 153)).before ar s = true := fx hs 234 (by decide +kernel)
theorem fs_eq5 (hs : ∀ c ∈ fl1, c.before ar s = true) : (Cond.eq (trd 5) (Term.string "CustomValleyModel" 157)).before ar s = true := fx hs 329 (by decide +kernel)
theorem fs_eq6 (hs : ∀ c ∈ fl1, c.before ar s = true) : (Cond.eq (trd 6) (Term.string "CustomValleyModel" 163)).before ar s = true := fx hs 411 (by decide +kernel)
theorem fs_eq7 (hs : ∀ c ∈ fl1, c.before ar s = true) : (Cond.eq (trd 7) (Term.string "CustomValleyModel" 165)).before ar s = true := fx hs 440 (by decide +kernel)
theorem fs_eq8 (hs : ∀ c ∈ fl1, c.before ar s = true) : (Cond.eq (trd 8) (Term.string "CustomValleyModel" 135)).before ar s = true := fx hs 256 (by decide +kernel)
theorem fs_eq9 (hs : ∀ c ∈ fl1, c.before ar s = true) : (Cond.eq (trd 9) (Term.string "CustomValleyModel" 141)).before ar s = true := fx hs 279 (by decide +kernel)
theorem fs_eq10 (hs : ∀ c ∈ fl1, c.before ar s = true) : (Cond.eq (trd 10) (Term.string "CustomValleyModel" 143)).before ar s = true := fx hs 303 (by decide +kernel)
theorem lw_sx (hA : ∀ a : Nat, a < s.heap.size → ¬ A a) (hs : ∀ c ∈ fl1, c.before ar s = true) (hts : ∀ w ∈ lw_tbl, w.before ar s = true) : ∃ adK adV : Nat → Nat, (vk_S 11 strLen strByt adK adV A s s.heap ∧ va_Z "java/lang/String" "COMPACT_STRINGS" "Z" (.int 1) A s s.heap ∧ ∃ w : Value, w.category = 1 ∧ va_Z "jdk/internal/util/Preconditions" "SIOOBE_FORMATTER" "Ljava/util/function/BiFunction;" w A s s.heap) ∧ ∀ q ∈ strL, vk_R q.1 q.2.1 q.2.2.1 (adK q.2.2.2) s := by
  obtain ⟨adK, adV, hS, hev⟩ := vk_Sof (args := ar) (s := s) (N := 11) (tm := trd) (len := strLen) (byt := strByt) (A := A) (by decide +kernel) (fs_ex hs) (fs_co hs) (fs_ar hs) (fs_le hs) (fs_el hs) (fs_ne hs) hA
  refine ⟨adK, adV, ⟨hS, va_Zof (hts _ (List.mem_of_getElem? (i := 726) (by decide +kernel))) (hts _ (List.mem_of_getElem? (i := 98) (by decide +kernel))) (va_eqt (fx hs 4 (by decide +kernel))) hA, ?_⟩, fun q hq => ?_⟩
  · rcases va_Zqof (C := "jdk/internal/util/Preconditions") (n := "SIOOBE_FORMATTER") (d := "Ljava/util/function/BiFunction;") (hts _ (List.mem_of_getElem? (i := 742) (by decide +kernel))) (hts _ (List.mem_of_getElem? (i := 100) (by decide +kernel))) (fx hs 5 (by decide +kernel)) hA with h | ⟨t, h⟩
    · exact ⟨_, rfl, h⟩
    · exact ⟨_, rfl, h⟩
  · simp only [strL, List.mem_cons, List.not_mem_nil, or_false] at hq
    rcases hq with rfl | rfl | rfl | rfl | rfl | rfl | rfl | rfl | rfl | rfl | rfl | rfl | rfl | rfl | rfl | rfl | rfl | rfl | rfl | rfl | rfl | rfl
    · exact vk_R.of (hts _ (List.mem_of_getElem? (i := 712) (by decide +kernel))) (hev 0 (by decide))
    · exact vk_R.of (hts _ (List.mem_of_getElem? (i := 792) (by decide +kernel))) (hev 1 (by decide))
    · exact vk_R.of (hts _ (List.mem_of_getElem? (i := 797) (by decide +kernel))) (hev 2 (by decide))
    · exact vk_R.of (hts _ (List.mem_of_getElem? (i := 802) (by decide +kernel))) (hev 3 (by decide))
    · exact vk_R.of (hts _ (List.mem_of_getElem? (i := 807) (by decide +kernel))) (hev 4 (by decide))
    · exact vk_R.of (hts _ (List.mem_of_getElem? (i := 812) (by decide +kernel))) (hev 8 (by decide))
    · exact vk_R.of (hts _ (List.mem_of_getElem? (i := 813) (by decide +kernel))) (hev 9 (by decide))
    · exact vk_R.of (hts _ (List.mem_of_getElem? (i := 814) (by decide +kernel))) (hev 10 (by decide))
    · exact vk_R.of (hts _ (List.mem_of_getElem? (i := 815) (by decide +kernel))) (hev 5 (by decide))
    · exact vk_R.of (hts _ (List.mem_of_getElem? (i := 816) (by decide +kernel))) (hev 6 (by decide))
    · exact vk_R.of (hts _ (List.mem_of_getElem? (i := 821) (by decide +kernel))) (hev 7 (by decide))
    · exact vk_R.of (hts _ (List.mem_of_getElem? (i := 1743) (by decide +kernel))) (va_eqR (fs_eq0 hs) (hev 0 (by decide)))
    · exact vk_R.of (hts _ (List.mem_of_getElem? (i := 1770) (by decide +kernel))) (va_eqR (fs_eq1 hs) (hev 1 (by decide)))
    · exact vk_R.of (hts _ (List.mem_of_getElem? (i := 1775) (by decide +kernel))) (va_eqR (fs_eq4 hs) (hev 4 (by decide)))
    · exact vk_R.of (hts _ (List.mem_of_getElem? (i := 1780) (by decide +kernel))) (va_eqR (fs_eq8 hs) (hev 8 (by decide)))
    · exact vk_R.of (hts _ (List.mem_of_getElem? (i := 1781) (by decide +kernel))) (va_eqR (fs_eq9 hs) (hev 9 (by decide)))
    · exact vk_R.of (hts _ (List.mem_of_getElem? (i := 1782) (by decide +kernel))) (va_eqR (fs_eq10 hs) (hev 10 (by decide)))
    · exact vk_R.of (hts _ (List.mem_of_getElem? (i := 1783) (by decide +kernel))) (va_eqR (fs_eq5 hs) (hev 5 (by decide)))
    · exact vk_R.of (hts _ (List.mem_of_getElem? (i := 1784) (by decide +kernel))) (va_eqR (fs_eq2 hs) (hev 2 (by decide)))
    · exact vk_R.of (hts _ (List.mem_of_getElem? (i := 1785) (by decide +kernel))) (va_eqR (fs_eq3 hs) (hev 3 (by decide)))
    · exact vk_R.of (hts _ (List.mem_of_getElem? (i := 1786) (by decide +kernel))) (va_eqR (fs_eq6 hs) (hev 6 (by decide)))
    · exact vk_R.of (hts _ (List.mem_of_getElem? (i := 1787) (by decide +kernel))) (va_eqR (fs_eq7 hs) (hev 7 (by decide)))
theorem lw_tz (hA : ∀ a : Nat, a < s.heap.size → ¬ A a) (hs : ∀ c ∈ fl1, c.before ar s = true) (hts : ∀ w ∈ lw_tbl, w.before ar s = true) : TZ A s := ⟨va_Zqof (hts _ (List.mem_of_getElem? (i := 1378) (by decide +kernel))) (hts _ (List.mem_of_getElem? (i := 95) (by decide +kernel))) (fx hs 9 (by decide +kernel)) hA, va_Zqof (hts _ (List.mem_of_getElem? (i := 1380) (by decide +kernel))) (hts _ (List.mem_of_getElem? (i := 95) (by decide +kernel))) (fx hs 10 (by decide +kernel)) hA⟩
theorem lw_nwL (hts : ∀ w ∈ lw_tbl, w.before ar s = true) : ∀ w ∈ nwL, va_Nw w s := by
  intro w hw
  simp only [nwL, List.mem_cons, List.not_mem_nil, or_false] at hw
  rcases hw with rfl | rfl | rfl
  · exact va_Nw.of rfl (hts _ (List.mem_of_getElem? (i := 929) (by decide +kernel)))
  · exact va_Nw.of rfl (hts _ (List.mem_of_getElem? (i := 1027) (by decide +kernel)))
  · exact va_Nw.of rfl (hts _ (List.mem_of_getElem? (i := 1226) (by decide +kernel)))
theorem lw_nwC (hts : ∀ w ∈ lw_tbl, w.before ar s = true) : ∀ w ∈ nwC, va_Nw w s := by
  intro w hw
  simp only [nwC, List.mem_cons, List.not_mem_nil, or_false] at hw
  rcases hw with rfl | rfl | rfl | rfl | rfl | rfl | rfl | rfl | rfl
  · exact va_Nw.of rfl (hts _ (List.mem_of_getElem? (i := 113) (by decide +kernel)))
  · exact va_Nw.of rfl (hts _ (List.mem_of_getElem? (i := 330) (by decide +kernel)))
  · exact va_Nw.of rfl (hts _ (List.mem_of_getElem? (i := 338) (by decide +kernel)))
  · exact va_Nw.of rfl (hts _ (List.mem_of_getElem? (i := 358) (by decide +kernel)))
  · exact va_Nw.of rfl (hts _ (List.mem_of_getElem? (i := 455) (by decide +kernel)))
  · exact va_Nw.of rfl (hts _ (List.mem_of_getElem? (i := 476) (by decide +kernel)))
  · exact va_Nw.of rfl (hts _ (List.mem_of_getElem? (i := 508) (by decide +kernel)))
  · exact va_Nw.of rfl (hts _ (List.mem_of_getElem? (i := 526) (by decide +kernel)))
  · exact va_Nw.of rfl (hts _ (List.mem_of_getElem? (i := 564) (by decide +kernel)))
theorem lw_cls (hts : ∀ w ∈ TB, w.before ar s = true) (c : Nat) : ∃ x : ClassId × (Nat → Nat), ∀ q : vw_C, classes[c]? = some q → u_Kn s q.1 q.2.1 q.2.2 x.1 x.2 := by
  by_cases h14 : c < 14
  · have key : ∀ (C : String) (T : u_T) (N : Nat), classes[c]? = some (C, T, N) → Cond.instantiable C N ∈ TB → ∃ x : ClassId × (Nat → Nat), ∀ q : vw_C, classes[c]? = some q → u_Kn s q.1 q.2.1 q.2.2 x.1 x.2 := fun C T N h hi => by
      obtain ⟨cC, iS, h1⟩ := u_known hts (cls_tab c h).1 (hts _ hi)
      exact ⟨(cC, iS), fun q hq => by cases Option.some.inj (h.symm.trans hq); exact h1⟩
    match c, h14, key with
    | 0, _, key => exact key RX0 TX0 3 rfl (tb_2 189 rfl rfl)
    | 1, _, key => exact key RX1 TX1 7 rfl (tb_2 11 rfl rfl)
    | 2, _, key => exact key RX2 TX2 12 rfl (tb_1 51 rfl rfl)
    | 3, _, key => exact key RX3 TX3 4 rfl (tb_2 19 rfl rfl)
    | 4, _, key => exact key RX4 TX4 14 rfl (tb_2 39 rfl rfl)
    | 5, _, key => exact key RX5 TX5 4 rfl (tb_2 136 rfl rfl)
    | 6, _, key => exact key RX6 TX6 9 rfl (tb_3 5 rfl rfl)
    | 7, _, key => exact key RX7 TX7 2 rfl (tb_1 34 rfl rfl)
    | 8, _, key => exact key RX8 TX8 8 rfl (tb_2 157 rfl rfl)
    | 9, _, key => exact key RX9 TX9 18 rfl (tb_1 57 rfl rfl)
    | 10, _, key => exact key RX10 TX10 8 rfl (tb_2 207 rfl rfl)
    | 11, _, key => exact key RX11 TX11 18 rfl (tb_1 26 rfl rfl)
    | 12, _, key => exact key RX12 TX12 6 rfl (tb_6 76 rfl rfl)
    | 13, _, key => exact key RX13 TX13 92 rfl (tb_6 70 rfl rfl)
    | c + 14, h, _ => omega
  · exact ⟨(default, fun _ => 0), fun q hq => absurd (List.getElem?_eq_some_iff.mp hq).1 h14⟩
theorem lw_arr {ty : FieldType} (hw : (Cond.arrayClass ty).before ar s = true) : ∃ cA : ClassId, ArrOfT s cA ty ∧ s.vm.findClass ("[" ++ ty.toString) = some cA := by
  obtain ⟨c, k, comp, h1, h2, h3⟩ := Cond.arrayClass_spec hw
  exact ⟨c, fun n z => ⟨fun k h => (by cases h), k, h2, comp, h3⟩, h1⟩
theorem lw_K (hts : ∀ w ∈ TB, w.before ar s = true) : ∃ (D : va_G) (tc : Nat → ClassId), va_K D classes [(tc 0, .int), (tc 1, .byte), (tc 2, .boolean)] s := by
  obtain ⟨f, hf⟩ := Classical.axiomOfChoice (lw_cls hts)
  obtain ⟨a0, p0, r0⟩ := lw_arr (hts _ ac_int)
  obtain ⟨a1, p1, r1⟩ := lw_arr (hts _ ac_byte)
  obtain ⟨a2, p2, r2⟩ := lw_arr (hts _ ac_boolean)
  refine ⟨(fun c => (f c).1, fun c => (f c).2), fun j => if j = 0 then a0 else if j = 1 then a1 else a2, fun c q hq => hf c q hq, fun k q hk => ?_⟩
  match k, hk with
  | 0, hk => cases hk; exact ⟨p0, r0⟩
  | 1, hk => cases hk; exact ⟨p1, r1⟩
  | 2, hk => cases hk; exact ⟨p2, r2⟩
  | k + 3, hk => simp at hk
end Start
