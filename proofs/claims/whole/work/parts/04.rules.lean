section Rules
variable {M : MI} {pc : Nat} {als ast : List AV} {σ : St} {Q : Res → St → Prop}
def band (x y : Int) : Int := (Int32.ofInt x &&& Int32.ofInt y).toInt
def bor (x y : Int) : Int := (Int32.ofInt x ||| Int32.ofInt y).toInt
def bxor (x y : Int) : Int := (Int32.ofInt x ^^^ Int32.ofInt y).toInt
def shl (x y : Int) : Int := (Int32.ofInt x <<< (Int32.ofInt y &&& 31)).toInt
def shr (x y : Int) : Int := (Int32.ofInt x >>> (Int32.ofInt y &&& 31)).toInt
def ushr (x y : Int) : Int := ((Int32.ofInt x).toUInt32 >>> ((Int32.ofInt y).toUInt32 &&& Int32.toUInt32 31)).toInt32.toInt
def i2bI (x : Int) : Int := (Int32.ofInt x).toInt8.toInt32.toInt
def lshrI (x y : Int) : Int := (Int64.ofInt x >>> ((Int32.ofInt y).toInt64 &&& 63)).toInt
def lcm (x y : Int) : Int := if x > y then 1 else if x = y then 0 else -1
theorem i32_ne0 {y : Int32} (h : y.toInt ≠ 0) : ¬ y = 0 := fun e => h (by rw [e]; rfl)
theorem i64_ne0 {y : Int64} (h : y.toInt ≠ 0) : ¬ y = 0 := fun e => h (by rw [e]; rfl)
theorem td_eq {x y : Int} (h : 0 ≤ x) : x.tdiv y = x / y := Int.tdiv_eq_ediv_of_nonneg h
theorem div_r {x y : Int} (h : 0 ≤ x) (hy : 0 < y) : 0 ≤ x / y ∧ x / y ≤ x := ⟨Int.ediv_nonneg h (by omega), Int.ediv_le_self _ h⟩
theorem mod_e {x y : Int} : x - x / y * y = x % y := by rw [Int.emod_def, Int.mul_comm]
theorem lcm_e (x y : Int64) : (lg_cmp x y).toInt = lcm x.toInt y.toInt := by
  unfold lg_cmp lcm
  simp only [gt_iff_lt, Int64.lt_iff_toInt_lt, ← Int64.toInt_inj]
  by_cases h1 : y.toInt < x.toInt
  · rw [if_pos h1, if_pos h1]; rfl
  · rw [if_neg h1, if_neg h1]
    by_cases h2 : x.toInt = y.toInt
    · rw [if_pos h2, if_pos h2]; rfl
    · rw [if_neg h2, if_neg h2]; rfl
theorem wp_iadd {x y : Int} (hd : decode M.2.1 pc = .ok (.iadd, 1)) (k : WP M (pc + 1) als (vI (x + y) :: ast) σ Q) (h1 : -2147483648 ≤ x + y := by omega) (h2 : x + y < 2147483648 := by omega) : WP M pc als (vI y :: vI x :: ast) σ Q := by
  intro G A p l e R s mid args below meth c cells slots Z hC hX hE H locs ls st hW hl hs
  obtain ⟨b, st1, rfl, rfl, hs1⟩ := rs_I hs
  obtain ⟨a, st2, rfl, rfl, hs2⟩ := rs_I hs1
  refine lv_iadd hC.1 hC.2.1 hd ?_
  exact k G A p l e R s mid args below meth c cells slots Z hC hX hE H locs ls _ hW hl ⟨⟨_, rfl, by rw [Int32.toInt_add, bm32 h1 h2]⟩, hs2⟩
theorem wp_isub {x y : Int} (hd : decode M.2.1 pc = .ok (.isub, 1)) (k : WP M (pc + 1) als (vI (x - y) :: ast) σ Q) (h1 : -2147483648 ≤ x - y := by omega) (h2 : x - y < 2147483648 := by omega) : WP M pc als (vI y :: vI x :: ast) σ Q := by
  intro G A p l e R s mid args below meth c cells slots Z hC hX hE H locs ls st hW hl hs
  obtain ⟨b, st1, rfl, rfl, hs1⟩ := rs_I hs
  obtain ⟨a, st2, rfl, rfl, hs2⟩ := rs_I hs1
  refine lv_isub hC.1 hC.2.1 hd ?_
  exact k G A p l e R s mid args below meth c cells slots Z hC hX hE H locs ls _ hW hl ⟨⟨_, rfl, by rw [Int32.toInt_sub, bm32 h1 h2]⟩, hs2⟩
theorem wp_imul {x y : Int} (hd : decode M.2.1 pc = .ok (.imul, 1)) (k : WP M (pc + 1) als (vI (x * y) :: ast) σ Q) (h1 : -2147483648 ≤ x * y := by omega) (h2 : x * y < 2147483648 := by omega) : WP M pc als (vI y :: vI x :: ast) σ Q := by
  intro G A p l e R s mid args below meth c cells slots Z hC hX hE H locs ls st hW hl hs
  obtain ⟨b, st1, rfl, rfl, hs1⟩ := rs_I hs
  obtain ⟨a, st2, rfl, rfl, hs2⟩ := rs_I hs1
  refine lv_imul hC.1 hC.2.1 hd ?_
  exact k G A p l e R s mid args below meth c cells slots Z hC hX hE H locs ls _ hW hl ⟨⟨_, rfl, by rw [Int32.toInt_mul, bm32 h1 h2]⟩, hs2⟩
theorem wp_idiv {x y : Int} (hd : decode M.2.1 pc = .ok (.idiv, 1)) (k : WP M (pc + 1) als (vI (x / y) :: ast) σ Q) (h1 : 0 ≤ x := by omega) (h2 : 0 < y := by omega) : WP M pc als (vI y :: vI x :: ast) σ Q := by
  intro G A p l e R s mid args below meth c cells slots Z hC hX hE H locs ls st hW hl hs
  obtain ⟨b, st1, rfl, rfl, hs1⟩ := rs_I hs
  obtain ⟨a, st2, rfl, rfl, hs2⟩ := rs_I hs1
  have hr := div_r h1 h2
  have ha := (i32_in a).2
  refine lv_idiv hC.1 hC.2.1 hd (i32_ne0 (by omega)) ?_
  exact k G A p l e R s mid args below meth c cells slots Z hC hX hE H locs ls _ hW hl ⟨⟨_, rfl, by rw [Int32.toInt_div, td_eq h1, bm32 (by omega) (by omega)]⟩, hs2⟩
theorem wp_irem {x y : Int} (hd : decode M.2.1 pc = .ok (.irem, 1)) (k : WP M (pc + 1) als (vI (x % y) :: ast) σ Q) (h1 : 0 ≤ x := by omega) (h2 : 0 < y := by omega) : WP M pc als (vI y :: vI x :: ast) σ Q := by
  intro G A p l e R s mid args below meth c cells slots Z hC hX hE H locs ls st hW hl hs
  obtain ⟨b, st1, rfl, rfl, hs1⟩ := rs_I hs
  obtain ⟨a, st2, rfl, rfl, hs2⟩ := rs_I hs1
  have hr := div_r h1 h2
  have ha := (i32_in a).2
  have hq : a.toInt / b.toInt * b.toInt ≤ a.toInt := Int.ediv_mul_le _ (by omega)
  have hq0 : 0 ≤ a.toInt / b.toInt * b.toInt := Int.mul_nonneg hr.1 (by omega)
  refine lv_irem hC.1 hC.2.1 hd (i32_ne0 (by omega)) ?_
  exact k G A p l e R s mid args below meth c cells slots Z hC hX hE H locs ls _ hW hl ⟨⟨_, rfl, by rw [Int32.toInt_sub, Int32.toInt_mul, Int32.toInt_div, td_eq h1, bm32 (z := a.toInt / b.toInt) (by omega) (by omega), bm32 (z := a.toInt / b.toInt * b.toInt) (by omega) (by omega), bm32 (by omega) (by omega), mod_e]⟩, hs2⟩
theorem wp_iand {x y : Int} (hd : decode M.2.1 pc = .ok (.iand, 1)) (k : WP M (pc + 1) als (vI (band x y) :: ast) σ Q) : WP M pc als (vI y :: vI x :: ast) σ Q := by
  intro G A p l e R s mid args below meth c cells slots Z hC hX hE H locs ls st hW hl hs
  obtain ⟨b, st1, rfl, rfl, hs1⟩ := rs_I hs
  obtain ⟨a, st2, rfl, rfl, hs2⟩ := rs_I hs1
  refine lv_iand hC.1 hC.2.1 hd ?_
  exact k G A p l e R s mid args below meth c cells slots Z hC hX hE H locs ls _ hW hl ⟨⟨_, rfl, by unfold band; rw [Int32.ofInt_toInt, Int32.ofInt_toInt]⟩, hs2⟩
theorem wp_ior {x y : Int} (hd : decode M.2.1 pc = .ok (.ior, 1)) (k : WP M (pc + 1) als (vI (bor x y) :: ast) σ Q) : WP M pc als (vI y :: vI x :: ast) σ Q := by
  intro G A p l e R s mid args below meth c cells slots Z hC hX hE H locs ls st hW hl hs
  obtain ⟨b, st1, rfl, rfl, hs1⟩ := rs_I hs
  obtain ⟨a, st2, rfl, rfl, hs2⟩ := rs_I hs1
  refine lv_ior hC.1 hC.2.1 hd ?_
  exact k G A p l e R s mid args below meth c cells slots Z hC hX hE H locs ls _ hW hl ⟨⟨_, rfl, by unfold bor; rw [Int32.ofInt_toInt, Int32.ofInt_toInt]⟩, hs2⟩
theorem wp_ixor {x y : Int} (hd : decode M.2.1 pc = .ok (.ixor, 1)) (k : WP M (pc + 1) als (vI (bxor x y) :: ast) σ Q) : WP M pc als (vI y :: vI x :: ast) σ Q := by
  intro G A p l e R s mid args below meth c cells slots Z hC hX hE H locs ls st hW hl hs
  obtain ⟨b, st1, rfl, rfl, hs1⟩ := rs_I hs
  obtain ⟨a, st2, rfl, rfl, hs2⟩ := rs_I hs1
  refine lv_ixor hC.1 hC.2.1 hd ?_
  exact k G A p l e R s mid args below meth c cells slots Z hC hX hE H locs ls _ hW hl ⟨⟨_, rfl, by unfold bxor; rw [Int32.ofInt_toInt, Int32.ofInt_toInt]⟩, hs2⟩
theorem wp_ishl {x y : Int} (hd : decode M.2.1 pc = .ok (.ishl, 1)) (k : WP M (pc + 1) als (vI (shl x y) :: ast) σ Q) : WP M pc als (vI y :: vI x :: ast) σ Q := by
  intro G A p l e R s mid args below meth c cells slots Z hC hX hE H locs ls st hW hl hs
  obtain ⟨b, st1, rfl, rfl, hs1⟩ := rs_I hs
  obtain ⟨a, st2, rfl, rfl, hs2⟩ := rs_I hs1
  refine lv_ishl hC.1 hC.2.1 hd ?_
  exact k G A p l e R s mid args below meth c cells slots Z hC hX hE H locs ls _ hW hl ⟨⟨_, rfl, by unfold shl; rw [Int32.ofInt_toInt, Int32.ofInt_toInt]⟩, hs2⟩
theorem wp_ishr {x y : Int} (hd : decode M.2.1 pc = .ok (.ishr, 1)) (k : WP M (pc + 1) als (vI (shr x y) :: ast) σ Q) : WP M pc als (vI y :: vI x :: ast) σ Q := by
  intro G A p l e R s mid args below meth c cells slots Z hC hX hE H locs ls st hW hl hs
  obtain ⟨b, st1, rfl, rfl, hs1⟩ := rs_I hs
  obtain ⟨a, st2, rfl, rfl, hs2⟩ := rs_I hs1
  refine lv_ishr hC.1 hC.2.1 hd ?_
  exact k G A p l e R s mid args below meth c cells slots Z hC hX hE H locs ls _ hW hl ⟨⟨_, rfl, by unfold shr; rw [Int32.ofInt_toInt, Int32.ofInt_toInt]⟩, hs2⟩
theorem wp_iushr {x y : Int} (hd : decode M.2.1 pc = .ok (.iushr, 1)) (k : WP M (pc + 1) als (vI (ushr x y) :: ast) σ Q) : WP M pc als (vI y :: vI x :: ast) σ Q := by
  intro G A p l e R s mid args below meth c cells slots Z hC hX hE H locs ls st hW hl hs
  obtain ⟨b, st1, rfl, rfl, hs1⟩ := rs_I hs
  obtain ⟨a, st2, rfl, rfl, hs2⟩ := rs_I hs1
  refine lv_iushr hC.1 hC.2.1 hd rfl ?_
  exact k G A p l e R s mid args below meth c cells slots Z hC hX hE H locs ls _ hW hl ⟨⟨_, rfl, by unfold ushr; rw [Int32.ofInt_toInt, Int32.ofInt_toInt]⟩, hs2⟩
theorem wp_ladd {x y : Int} (hd : decode M.2.1 pc = .ok (.ladd, 1)) (k : WP M (pc + 1) als (vL (x + y) :: ast) σ Q) (h1 : -9223372036854775808 ≤ x + y := by omega) (h2 : x + y < 9223372036854775808 := by omega) : WP M pc als (vL y :: vL x :: ast) σ Q := by
  intro G A p l e R s mid args below meth c cells slots Z hC hX hE H locs ls st hW hl hs
  obtain ⟨b, st1, rfl, rfl, hs1⟩ := rs_L hs
  obtain ⟨a, st2, rfl, rfl, hs2⟩ := rs_L hs1
  refine lv_ladd hC.1 hC.2.1 hd ?_
  exact k G A p l e R s mid args below meth c cells slots Z hC hX hE H locs ls _ hW hl ⟨⟨_, rfl, by rw [Int64.toInt_add, bm64 h1 h2]⟩, hs2⟩
theorem wp_lsub {x y : Int} (hd : decode M.2.1 pc = .ok (.lsub, 1)) (k : WP M (pc + 1) als (vL (x - y) :: ast) σ Q) (h1 : -9223372036854775808 ≤ x - y := by omega) (h2 : x - y < 9223372036854775808 := by omega) : WP M pc als (vL y :: vL x :: ast) σ Q := by
  intro G A p l e R s mid args below meth c cells slots Z hC hX hE H locs ls st hW hl hs
  obtain ⟨b, st1, rfl, rfl, hs1⟩ := rs_L hs
  obtain ⟨a, st2, rfl, rfl, hs2⟩ := rs_L hs1
  refine lv_lsub hC.1 hC.2.1 hd ?_
  exact k G A p l e R s mid args below meth c cells slots Z hC hX hE H locs ls _ hW hl ⟨⟨_, rfl, by rw [Int64.toInt_sub, bm64 h1 h2]⟩, hs2⟩
theorem wp_lmul {x y : Int} (hd : decode M.2.1 pc = .ok (.lmul, 1)) (k : WP M (pc + 1) als (vL (x * y) :: ast) σ Q) (h1 : -9223372036854775808 ≤ x * y := by omega) (h2 : x * y < 9223372036854775808 := by omega) : WP M pc als (vL y :: vL x :: ast) σ Q := by
  intro G A p l e R s mid args below meth c cells slots Z hC hX hE H locs ls st hW hl hs
  obtain ⟨b, st1, rfl, rfl, hs1⟩ := rs_L hs
  obtain ⟨a, st2, rfl, rfl, hs2⟩ := rs_L hs1
  refine lv_lmul hC.1 hC.2.1 hd ?_
  exact k G A p l e R s mid args below meth c cells slots Z hC hX hE H locs ls _ hW hl ⟨⟨_, rfl, by rw [Int64.toInt_mul, bm64 h1 h2]⟩, hs2⟩
theorem wp_ldiv {x y : Int} (hd : decode M.2.1 pc = .ok (.ldiv, 1)) (k : WP M (pc + 1) als (vL (x / y) :: ast) σ Q) (h1 : 0 ≤ x := by omega) (h2 : 0 < y := by omega) : WP M pc als (vL y :: vL x :: ast) σ Q := by
  intro G A p l e R s mid args below meth c cells slots Z hC hX hE H locs ls st hW hl hs
  obtain ⟨b, st1, rfl, rfl, hs1⟩ := rs_L hs
  obtain ⟨a, st2, rfl, rfl, hs2⟩ := rs_L hs1
  have hr := div_r h1 h2
  have ha := a.toInt_lt
  refine lv_ldiv hC.1 hC.2.1 hd (i64_ne0 (by omega)) ?_
  exact k G A p l e R s mid args below meth c cells slots Z hC hX hE H locs ls _ hW hl ⟨⟨_, rfl, by rw [Int64.toInt_div, td_eq h1, bm64 (by omega) (by omega)]⟩, hs2⟩
theorem wp_lrem {x y : Int} (hd : decode M.2.1 pc = .ok (.lrem, 1)) (k : WP M (pc + 1) als (vL (x % y) :: ast) σ Q) (h1 : 0 ≤ x := by omega) (h2 : 0 < y := by omega) : WP M pc als (vL y :: vL x :: ast) σ Q := by
  intro G A p l e R s mid args below meth c cells slots Z hC hX hE H locs ls st hW hl hs
  obtain ⟨b, st1, rfl, rfl, hs1⟩ := rs_L hs
  obtain ⟨a, st2, rfl, rfl, hs2⟩ := rs_L hs1
  have hr := div_r h1 h2
  have ha := a.toInt_lt
  have hq : a.toInt / b.toInt * b.toInt ≤ a.toInt := Int.ediv_mul_le _ (by omega)
  have hq0 : 0 ≤ a.toInt / b.toInt * b.toInt := Int.mul_nonneg hr.1 (by omega)
  refine lv_lrem hC.1 hC.2.1 hd (i64_ne0 (by omega)) ?_
  exact k G A p l e R s mid args below meth c cells slots Z hC hX hE H locs ls _ hW hl ⟨⟨_, rfl, by rw [Int64.toInt_sub, Int64.toInt_mul, Int64.toInt_div, td_eq h1, bm64 (z := a.toInt / b.toInt) (by omega) (by omega), bm64 (z := a.toInt / b.toInt * b.toInt) (by omega) (by omega), bm64 (by omega) (by omega), mod_e]⟩, hs2⟩
theorem wp_lshr {x y : Int} (hd : decode M.2.1 pc = .ok (.lshr, 1)) (k : WP M (pc + 1) als (vL (lshrI x y) :: ast) σ Q) : WP M pc als (vI y :: vL x :: ast) σ Q := by
  intro G A p l e R s mid args below meth c cells slots Z hC hX hE H locs ls st hW hl hs
  obtain ⟨b, st1, rfl, rfl, hs1⟩ := rs_I hs
  obtain ⟨a, st2, rfl, rfl, hs2⟩ := rs_L hs1
  refine lv_lshr hC.1 hC.2.1 hd rfl ?_
  exact k G A p l e R s mid args below meth c cells slots Z hC hX hE H locs ls _ hW hl ⟨⟨_, rfl, by unfold lshrI; rw [Int64.ofInt_toInt, Int32.ofInt_toInt]⟩, hs2⟩
theorem wp_lcmp {x y : Int} (hd : decode M.2.1 pc = .ok (.lcmp, 1)) (k : WP M (pc + 1) als (vI (lcm x y) :: ast) σ Q) : WP M pc als (vL y :: vL x :: ast) σ Q := by
  intro G A p l e R s mid args below meth c cells slots Z hC hX hE H locs ls st hW hl hs
  obtain ⟨b, st1, rfl, rfl, hs1⟩ := rs_L hs
  obtain ⟨a, st2, rfl, rfl, hs2⟩ := rs_L hs1
  refine W.lcmp hC.1 hC.2.1 hd ?_
  exact k G A p l e R s mid args below meth c cells slots Z hC hX hE H locs ls _ hW hl ⟨⟨_, rfl, lcm_e _ _⟩, hs2⟩
theorem wp_i2b {x : Int} (hd : decode M.2.1 pc = .ok (.i2b, 1)) (k : WP M (pc + 1) als (vI (i2bI x) :: ast) σ Q) : WP M pc als (vI x :: ast) σ Q := by
  intro G A p l e R s mid args below meth c cells slots Z hC hX hE H locs ls st hW hl hs
  obtain ⟨a, st1, rfl, rfl, hs1⟩ := rs_I hs
  refine lv_i2b hC.1 hC.2.1 hd rfl ?_
  exact k G A p l e R s mid args below meth c cells slots Z hC hX hE H locs ls _ hW hl ⟨⟨_, rfl, by unfold i2bI; rw [Int32.ofInt_toInt]⟩, hs1⟩
theorem wp_i2l {x : Int} (hd : decode M.2.1 pc = .ok (.i2l, 1)) (k : WP M (pc + 1) als (vL (x) :: ast) σ Q) : WP M pc als (vI x :: ast) σ Q := by
  intro G A p l e R s mid args below meth c cells slots Z hC hX hE H locs ls st hW hl hs
  obtain ⟨a, st1, rfl, rfl, hs1⟩ := rs_I hs
  refine lv_i2l hC.1 hC.2.1 hd rfl ?_
  exact k G A p l e R s mid args below meth c cells slots Z hC hX hE H locs ls _ hW hl ⟨⟨_, rfl, Int32.toInt_toInt64 _⟩, hs1⟩
theorem wp_l2i {x : Int} (hd : decode M.2.1 pc = .ok (.l2i, 1)) (k : WP M (pc + 1) als (vI (x) :: ast) σ Q) (h1 : -2147483648 ≤ x := by omega) (h2 : x < 2147483648 := by omega) : WP M pc als (vL x :: ast) σ Q := by
  intro G A p l e R s mid args below meth c cells slots Z hC hX hE H locs ls st hW hl hs
  obtain ⟨a, st1, rfl, rfl, hs1⟩ := rs_L hs
  refine lv_l2i hC.1 hC.2.1 hd rfl ?_
  exact k G A p l e R s mid args below meth c cells slots Z hC hX hE H locs ls _ hW hl ⟨⟨_, rfl, by rw [Int64.toInt_toInt32, bm32 h1 h2]⟩, hs1⟩
theorem wp_iconst {n : Int} (hd : decode M.2.1 pc = .ok (.iconst n, 1)) (hn : (Int32.ofInt n).toInt = n) (k : WP M (pc + 1) als (vI n :: ast) σ Q) : WP M pc als ast σ Q := by
  intro G A p l e R s mid args below meth c cells slots Z hC hX hE H locs ls st hW hl hs
  refine lv_iconst hC.1 hC.2.1 hd rfl ?_
  exact k G A p l e R s mid args below meth c cells slots Z hC hX hE H locs ls _ hW hl ⟨⟨_, rfl, hn⟩, hs⟩
theorem wp_bipush {n : Int} (hd : decode M.2.1 pc = .ok (.bipush n, 2)) (hn : (Int8.ofInt n).toInt32.toInt = n) (k : WP M (pc + 2) als (vI n :: ast) σ Q) : WP M pc als ast σ Q := by
  intro G A p l e R s mid args below meth c cells slots Z hC hX hE H locs ls st hW hl hs
  refine lv_bipush hC.1 hC.2.1 hd rfl ?_
  exact k G A p l e R s mid args below meth c cells slots Z hC hX hE H locs ls _ hW hl ⟨⟨_, rfl, hn⟩, hs⟩
theorem wp_sipush {n : Int} (hd : decode M.2.1 pc = .ok (.sipush n, 3)) (hn : (Int16.ofInt n).toInt32.toInt = n) (k : WP M (pc + 3) als (vI n :: ast) σ Q) : WP M pc als ast σ Q := by
  intro G A p l e R s mid args below meth c cells slots Z hC hX hE H locs ls st hW hl hs
  refine lv_sipush hC.1 hC.2.1 hd rfl ?_
  exact k G A p l e R s mid args below meth c cells slots Z hC hX hE H locs ls _ hW hl ⟨⟨_, rfl, hn⟩, hs⟩
theorem wp_ldc {n : Int} {v : Int32} {i : Nat} (hd : decode M.2.1 pc = .ok (.ldc i, 2)) (hc : Cond.constant M.1.cls i v ∈ TB) (hn : v.toInt = n) (k : WP M (pc + 2) als (vI n :: ast) σ Q) : WP M pc als ast σ Q := by
  intro G A p l e R s mid args below meth c cells slots Z hC hX hE H locs ls st hW hl hs
  refine lv_ldc hC.1 hC.2.1 hC.2.2.2.1 (hC.2.2.2.2.1 _ hc) hd ?_
  exact k G A p l e R s mid args below meth c cells slots Z hC hX hE H locs ls _ hW hl ⟨⟨_, rfl, hn⟩, hs⟩
theorem wp_ldcw {n : Int} {v : Int32} {i : Nat} (hd : decode M.2.1 pc = .ok (.ldc_w i, 3)) (hc : Cond.constant M.1.cls i v ∈ TB) (hn : v.toInt = n) (k : WP M (pc + 3) als (vI n :: ast) σ Q) : WP M pc als ast σ Q := by
  intro G A p l e R s mid args below meth c cells slots Z hC hX hE H locs ls st hW hl hs
  refine lv_ldcw hC.1 hC.2.1 hC.2.2.2.1 (hC.2.2.2.2.1 _ hc) hd ?_
  exact k G A p l e R s mid args below meth c cells slots Z hC hX hE H locs ls _ hW hl ⟨⟨_, rfl, hn⟩, hs⟩
theorem wp_ldc2 {n : Int} {v : Int64} {i : Nat} (hd : decode M.2.1 pc = .ok (.ldc2_w i, 3)) (hc : Cond.constantLong M.1.cls i v ∈ TB) (hn : v.toInt = n) (k : WP M (pc + 3) als (vL n :: ast) σ Q) : WP M pc als ast σ Q := by
  intro G A p l e R s mid args below meth c cells slots Z hC hX hE H locs ls st hW hl hs
  refine lv_ldc2 hC.1 hC.2.1 hC.2.2.2.1 (hC.2.2.2.2.1 _ hc) hd ?_
  exact k G A p l e R s mid args below meth c cells slots Z hC hX hE H locs ls _ hW hl ⟨⟨_, rfl, hn⟩, hs⟩
theorem wp_lconst {n : Int} {j : Fin 2} (hd : decode M.2.1 pc = .ok (.lconst j, 1)) (hn : (Int64.ofNat (j : Nat)).toInt = n) (k : WP M (pc + 1) als (vL n :: ast) σ Q) : WP M pc als ast σ Q := by
  intro G A p l e R s mid args below meth c cells slots Z hC hX hE H locs ls st hW hl hs
  refine lv_lconst hC.1 hC.2.1 hd rfl ?_
  exact k G A p l e R s mid args below meth c cells slots Z hC hX hE H locs ls _ hW hl ⟨⟨_, rfl, hn⟩, hs⟩
theorem wp_ldcS {i j : Nat} {tx : String} (hd : decode M.2.1 pc = .ok (.ldc i, 2)) (hc : (M.1.cls, i, tx, j) ∈ strL) (k : WP M (pc + 2) als (vR 1001 j :: ast) σ Q) : WP M pc als ast σ Q := by
  intro G A p l e R s mid args below meth c cells slots Z hC hX hE H locs ls st hW hl hs
  refine va_ldcS hC.1 hC.2.1 hC.2.2.2.1 (hC.2.2.2.2.2.2.2.2.2.2.2.2 _ hc) hd ?_
  exact k G A p l e R s mid args below meth c cells slots Z hC hX hE H locs ls _ hW hl ⟨⟨rfl, Or.inr (Nat.le_of_ble_eq_true rfl)⟩, hs⟩
theorem rl_get {G : GG} {n : Nat} {ls : Array Slot} {als : List AV} (h : rl G n ls als) {i : Nat} {a : AV} (ha : als[i]? = some a) (h0 : a ≠ vU) : ∃ v, ls[i]? = some (.val v) ∧ rv G v a := by
  obtain ⟨lv, h1, h2⟩ := h
  obtain ⟨v, h3, h4⟩ := h2 i a ha h0
  exact ⟨v, h1.2.2 _ h3, h4⟩
theorem wp_iload_n {x : Int} {i : Nat} {j : Fin 4} (hd : decode M.2.1 pc = .ok (.iload_n j, 1)) (hi : (j : Nat) = i) (ha : als[i]? = some (vI x)) (k : WP M (pc + 1) als (vI x :: ast) σ Q) : WP M pc als ast σ Q := by
  intro G A p l e R s mid args below meth c cells slots Z hC hX hE H locs ls st hW hl hs
  obtain ⟨v, h1, y, rfl, h2⟩ := rl_get hl ha (fun q => by cases q)
  refine lv_iload_n hC.1 hC.2.1 hd hi h1 ?_
  exact k G A p l e R s mid args below meth c cells slots Z hC hX hE H locs ls _ hW hl ⟨⟨_, rfl, h2⟩, hs⟩
theorem wp_iload {x : Int} {i : Nat} (hd : decode M.2.1 pc = .ok (.iload i, 2)) (ha : als[i]? = some (vI x)) (k : WP M (pc + 2) als (vI x :: ast) σ Q) : WP M pc als ast σ Q := by
  intro G A p l e R s mid args below meth c cells slots Z hC hX hE H locs ls st hW hl hs
  obtain ⟨v, h1, y, rfl, h2⟩ := rl_get hl ha (fun q => by cases q)
  refine lv_iload hC.1 hC.2.1 hd h1 ?_
  exact k G A p l e R s mid args below meth c cells slots Z hC hX hE H locs ls _ hW hl ⟨⟨_, rfl, h2⟩, hs⟩
theorem wp_lload_n {x : Int} {i : Nat} {j : Fin 4} (hd : decode M.2.1 pc = .ok (.lload_n j, 1)) (hi : (j : Nat) = i) (ha : als[i]? = some (vL x)) (k : WP M (pc + 1) als (vL x :: ast) σ Q) : WP M pc als ast σ Q := by
  intro G A p l e R s mid args below meth c cells slots Z hC hX hE H locs ls st hW hl hs
  obtain ⟨v, h1, y, rfl, h2⟩ := rl_get hl ha (fun q => by cases q)
  refine lv_lload_n hC.1 hC.2.1 hd hi h1 ?_
  exact k G A p l e R s mid args below meth c cells slots Z hC hX hE H locs ls _ hW hl ⟨⟨_, rfl, h2⟩, hs⟩
theorem wp_lload {x : Int} {i : Nat} (hd : decode M.2.1 pc = .ok (.lload i, 2)) (ha : als[i]? = some (vL x)) (k : WP M (pc + 2) als (vL x :: ast) σ Q) : WP M pc als ast σ Q := by
  intro G A p l e R s mid args below meth c cells slots Z hC hX hE H locs ls st hW hl hs
  obtain ⟨v, h1, y, rfl, h2⟩ := rl_get hl ha (fun q => by cases q)
  refine lv_lload hC.1 hC.2.1 hd h1 ?_
  exact k G A p l e R s mid args below meth c cells slots Z hC hX hE H locs ls _ hW hl ⟨⟨_, rfl, h2⟩, hs⟩
theorem wp_aload_n {c0 i0 : Nat} {i : Nat} {j : Fin 4} (hd : decode M.2.1 pc = .ok (.aload_n j, 1)) (hi : (j : Nat) = i) (ha : als[i]? = some (vR c0 i0)) (k : WP M (pc + 1) als (vR c0 i0 :: ast) σ Q) (h0 : c0 ≠ 0 := by decide) : WP M pc als ast σ Q := by
  intro G A p l e R s mid args below meth c cells slots Z hC hX hE H locs ls st hW hl hs
  obtain ⟨v, h1, rfl, h2⟩ := rl_get hl ha (fun q => by cases q; exact h0 rfl)
  refine lv_aload_n hC.1 hC.2.1 hd hi h1 ?_
  exact k G A p l e R s mid args below meth c cells slots Z hC hX hE H locs ls _ hW hl ⟨⟨rfl, h2⟩, hs⟩
theorem wp_aload {c0 i0 : Nat} {i : Nat} (hd : decode M.2.1 pc = .ok (.aload i, 2)) (ha : als[i]? = some (vR c0 i0)) (k : WP M (pc + 2) als (vR c0 i0 :: ast) σ Q) (h0 : c0 ≠ 0 := by decide) : WP M pc als ast σ Q := by
  intro G A p l e R s mid args below meth c cells slots Z hC hX hE H locs ls st hW hl hs
  obtain ⟨v, h1, rfl, h2⟩ := rl_get hl ha (fun q => by cases q; exact h0 rfl)
  refine lv_aload hC.1 hC.2.1 hd h1 ?_
  exact k G A p l e R s mid args below meth c cells slots Z hC hX hE H locs ls _ hW hl ⟨⟨rfl, h2⟩, hs⟩
def okst (als : List AV) (i : Nat) : Bool := match i with
  | 0 => true
  | j + 1 => match als[j]? with
    | some (.inr (.inl _)) => false
    | _ => true
theorem rl_set {G : GG} {n i : Nat} {ls' : Array Slot} {als : List AV} {lv lv' : List (Nat × Value)} {v : Value} {a : AV} (h2 : ∀ (i : Nat) (a : AV), als[i]? = some a → a ≠ vU → ∃ v, (i, v) ∈ lv ∧ rv G v a) (hv : rv G v a) (ho : okst als i = true)
    (he : (i, v) :: lv.filter (fun q => !(q.1 == i) && !(q.1 + 1 == i && q.2.category == 2)) = lv') (h' : lv_has ls' n lv') : rl G n ls' (als.set i a) := by
  refine ⟨lv', h', fun j b hj hb => ?_⟩
  rw [List.getElem?_set] at hj
  by_cases hij : i = j
  · subst hij
    rw [if_pos rfl] at hj
    split at hj
    · cases hj
      exact ⟨v, by rw [← he]; exact List.mem_cons_self, hv⟩
    · cases hj
  · rw [if_neg hij] at hj
    obtain ⟨u, hu, hr⟩ := h2 j b hj hb
    refine ⟨u, ?_, hr⟩
    rw [← he]
    refine List.mem_cons_of_mem _ (List.mem_filter.mpr ⟨hu, ?_⟩)
    have h3 : (j == i) = false := by simpa using fun q => hij q.symm
    have h4 : (j + 1 == i && u.category == 2) = false := by
      by_cases hji : j + 1 = i
      · subst hji
        have hne : ¬ u.category = 2 := by
          intro hc
          match b, hr with
          | .inl x, hr => obtain ⟨y, rfl, -⟩ := hr; simp [Value.category] at hc
          | .inr (.inl x), hr => simp [okst, hj] at ho
          | .inr (.inr q), hr => obtain ⟨rfl, -⟩ := hr; simp [Value.category] at hc
        simp [hne]
      · simp [hji]
    simp [h3, h4]
theorem wp_istore_n {x : Int} {i : Nat} {j : Fin 4} {als' : List AV} (hd : decode M.2.1 pc = .ok (.istore_n j, 1)) (hi : (j : Nat) = i) (hn : i < M.2.2.1) (ho : okst als i = true) (hs' : als.set i (vI x) = als') (k : WP M (pc + 1) als' ast σ Q) : WP M pc als (vI x :: ast) σ Q := by
  intro G A p l e R s mid args below meth c cells slots Z hC hX hE H locs ls st hW hl hs
  obtain ⟨a, st1, rfl, ea, hs1⟩ := rs_I hs
  obtain ⟨lv, g1, g2⟩ := hl
  refine lv_istore_n hC.1 hC.2.1 hd hi g1 hn rfl (fun ls1 hl1 => ?_)
  subst hs'
  exact k G A p l e R s mid args below meth c cells slots Z hC hX hE H locs ls1 _ hW (rl_set g2 ⟨_, rfl, ea⟩ ho rfl hl1) hs1
theorem wp_istore {x : Int} {i : Nat}  {als' : List AV} (hd : decode M.2.1 pc = .ok (.istore i, 2)) (hn : i < M.2.2.1) (ho : okst als i = true) (hs' : als.set i (vI x) = als') (k : WP M (pc + 2) als' ast σ Q) : WP M pc als (vI x :: ast) σ Q := by
  intro G A p l e R s mid args below meth c cells slots Z hC hX hE H locs ls st hW hl hs
  obtain ⟨a, st1, rfl, ea, hs1⟩ := rs_I hs
  obtain ⟨lv, g1, g2⟩ := hl
  refine lv_istore hC.1 hC.2.1 hd g1 hn rfl (fun ls1 hl1 => ?_)
  subst hs'
  exact k G A p l e R s mid args below meth c cells slots Z hC hX hE H locs ls1 _ hW (rl_set g2 ⟨_, rfl, ea⟩ ho rfl hl1) hs1
theorem wp_astore_n {c0 i0 : Nat} {i : Nat} {j : Fin 4} {als' : List AV} (hd : decode M.2.1 pc = .ok (.astore_n j, 1)) (hi : (j : Nat) = i) (hn : i < M.2.2.1) (ho : okst als i = true) (hs' : als.set i (vR c0 i0) = als') (k : WP M (pc + 1) als' ast σ Q) : WP M pc als (vR c0 i0 :: ast) σ Q := by
  intro G A p l e R s mid args below meth c cells slots Z hC hX hE H locs ls st hW hl hs
  obtain ⟨st1, rfl, ea, hs1⟩ := rs_R hs
  obtain ⟨lv, g1, g2⟩ := hl
  refine lv_astore_n hC.1 hC.2.1 hd hi g1 hn rfl (fun ls1 hl1 => ?_)
  subst hs'
  exact k G A p l e R s mid args below meth c cells slots Z hC hX hE H locs ls1 _ hW (rl_set g2 ⟨rfl, ea⟩ ho rfl hl1) hs1
theorem wp_astore {c0 i0 : Nat} {i : Nat}  {als' : List AV} (hd : decode M.2.1 pc = .ok (.astore i, 2)) (hn : i < M.2.2.1) (ho : okst als i = true) (hs' : als.set i (vR c0 i0) = als') (k : WP M (pc + 2) als' ast σ Q) : WP M pc als (vR c0 i0 :: ast) σ Q := by
  intro G A p l e R s mid args below meth c cells slots Z hC hX hE H locs ls st hW hl hs
  obtain ⟨st1, rfl, ea, hs1⟩ := rs_R hs
  obtain ⟨lv, g1, g2⟩ := hl
  refine lv_astore hC.1 hC.2.1 hd g1 hn rfl (fun ls1 hl1 => ?_)
  subst hs'
  exact k G A p l e R s mid args below meth c cells slots Z hC hX hE H locs ls1 _ hW (rl_set g2 ⟨rfl, ea⟩ ho rfl hl1) hs1
theorem wp_iinc {x n : Int} {i : Nat} {als' : List AV} (hd : decode M.2.1 pc = .ok (.iinc i n, 3)) (ha : als[i]? = some (vI x)) (hn : i < M.2.2.1) (ho : okst als i = true) (hs' : als.set i (vI (x + n)) = als') (k : WP M (pc + 3) als' ast σ Q) (h1 : -2147483648 ≤ x + n := by omega) (h2 : x + n < 2147483648 := by omega) (hn2 : (Int32.ofInt n).toInt = n := by decide) : WP M pc als ast σ Q := by
  intro G A p l e R s mid args below meth c cells slots Z hC hX hE H locs ls st hW hl hs
  obtain ⟨lv, g1, g2⟩ := hl
  obtain ⟨v, g3, y, rfl, g4⟩ := g2 i _ ha (fun q => by cases q)
  obtain ⟨q, hq⟩ := List.getElem?_of_mem g3
  refine lv_iinc hC.1 hC.2.1 hd g1 (k := q) (by rw [hq]) rfl hn rfl (fun ls1 hl1 => ?_)
  subst hs'
  exact k G A p l e R s mid args below meth c cells slots Z hC hX hE H locs ls1 _ hW (rl_set g2 ⟨_, rfl, by rw [Int32.toInt_add, g4, hn2, bm32 h1 h2]⟩ ho rfl hl1) hs
theorem rv_cat1 {G : GG} {v : Value} {a : AV} (h : rv G v a) (ha : ∀ x, a ≠ vL x) : v.category = 1 := by
  match a, h with
  | .inl x, h => obtain ⟨y, rfl, -⟩ := h; rfl
  | .inr (.inl x), h => exact absurd rfl (ha x)
  | .inr (.inr q), h => obtain ⟨rfl, -⟩ := h; rfl
theorem wp_dup {a : AV} (hd : decode M.2.1 pc = .ok (.dup, 1)) (k : WP M (pc + 1) als (a :: a :: ast) σ Q) (ha : ∀ x, a ≠ vL x := by intro _ q; cases q) : WP M pc als (a :: ast) σ Q := by
  intro G A p l e R s mid args below meth c cells slots Z hC hX hE H locs ls st hW hl hs
  obtain ⟨v, st1, rfl, h1, hs1⟩ := rs_cons hs
  refine lv_dup hC.1 hC.2.1 hd (rv_cat1 h1 ha) ?_
  exact k G A p l e R s mid args below meth c cells slots Z hC hX hE H locs ls _ hW hl ⟨h1, h1, hs1⟩
theorem wp_dup2 {a b : AV} (hd : decode M.2.1 pc = .ok (.dup2, 1)) (k : WP M (pc + 1) als (a :: b :: a :: b :: ast) σ Q) (ha : ∀ x, a ≠ vL x := by intro _ q; cases q) (hb : ∀ x, b ≠ vL x := by intro _ q; cases q) : WP M pc als (a :: b :: ast) σ Q := by
  intro G A p l e R s mid args below meth c cells slots Z hC hX hE H locs ls st hW hl hs
  obtain ⟨v, st1, rfl, h1, hs1⟩ := rs_cons hs
  obtain ⟨u, st2, rfl, h2, hs2⟩ := rs_cons hs1
  refine lv_dup2_11 hC.1 hC.2.1 hd (rv_cat1 h1 ha) (rv_cat1 h2 hb) ?_
  exact k G A p l e R s mid args below meth c cells slots Z hC hX hE H locs ls _ hW hl ⟨h1, h2, h1, h2, hs2⟩
theorem wp_pop {a : AV} (hd : decode M.2.1 pc = .ok (.pop, 1)) (k : WP M (pc + 1) als ast σ Q) (ha : ∀ x, a ≠ vL x := by intro _ q; cases q) : WP M pc als (a :: ast) σ Q := by
  intro G A p l e R s mid args below meth c cells slots Z hC hX hE H locs ls st hW hl hs
  obtain ⟨v, st1, rfl, h1, hs1⟩ := rs_cons hs
  refine lv_pop hC.1 hC.2.1 hd (rv_cat1 h1 ha) ?_
  exact k G A p l e R s mid args below meth c cells slots Z hC hX hE H locs ls _ hW hl hs1
theorem i32_lt {a b : Int32} : a < b ↔ a.toInt < b.toInt := Int32.lt_iff_toInt_lt
theorem i32_le {a b : Int32} : a ≤ b ↔ a.toInt ≤ b.toInt := Int32.le_iff_toInt_le
theorem i32_eq {a b : Int32} : a = b ↔ a.toInt = b.toInt := Int32.toInt_inj.symm
theorem wp_icmp_eq {x y : Int} {off : Int} {tgt : Nat} (hd : decode M.2.1 pc = .ok (.if_icmp .eq off, 3)) (ht : (pc : Int) + off = (tgt : Int)) (kt : x = y → WP M tgt als ast σ Q) (kf : x ≠ y → WP M (pc + 3) als ast σ Q) : WP M pc als (vI y :: vI x :: ast) σ Q := by
  intro G A p l e R s mid args below meth c cells slots Z hC hX hE H locs ls st hW hl hs
  obtain ⟨b, st1, rfl, rfl, hs1⟩ := rs_I hs
  obtain ⟨a, st2, rfl, rfl, hs2⟩ := rs_I hs1
  refine lv_icmp_eq hC.1 hC.2.1 hd ht (fun h => ?_) (fun h => ?_)
  · simp only [i32_lt, i32_le, i32_eq, ge_iff_le, gt_iff_lt, ne_eq] at h
    exact kt (by omega) G A p l e R s mid args below meth c cells slots Z hC hX hE H locs ls _ hW hl hs2
  · simp only [i32_lt, i32_le, i32_eq, ge_iff_le, gt_iff_lt, ne_eq] at h
    exact kf (by omega) G A p l e R s mid args below meth c cells slots Z hC hX hE H locs ls _ hW hl hs2
theorem wp_if_eq {x : Int} {off : Int} {tgt : Nat} (hd : decode M.2.1 pc = .ok (.ifCond .eq off, 3)) (ht : (pc : Int) + off = (tgt : Int)) (kt : x = 0 → WP M tgt als ast σ Q) (kf : x ≠ 0 → WP M (pc + 3) als ast σ Q) : WP M pc als (vI x :: ast) σ Q := by
  intro G A p l e R s mid args below meth c cells slots Z hC hX hE H locs ls st hW hl hs
  obtain ⟨a, st1, rfl, rfl, hs1⟩ := rs_I hs
  refine lv_if_eq hC.1 hC.2.1 hd ht (fun h => ?_) (fun h => ?_)
  · simp only [i32_lt, i32_le, i32_eq, ge_iff_le, gt_iff_lt, ne_eq, Int32.toInt_zero] at h
    exact kt (by omega) G A p l e R s mid args below meth c cells slots Z hC hX hE H locs ls _ hW hl hs1
  · simp only [i32_lt, i32_le, i32_eq, ge_iff_le, gt_iff_lt, ne_eq, Int32.toInt_zero] at h
    exact kf (by omega) G A p l e R s mid args below meth c cells slots Z hC hX hE H locs ls _ hW hl hs1
theorem wp_icmp_ne {x y : Int} {off : Int} {tgt : Nat} (hd : decode M.2.1 pc = .ok (.if_icmp .ne off, 3)) (ht : (pc : Int) + off = (tgt : Int)) (kt : x ≠ y → WP M tgt als ast σ Q) (kf : x = y → WP M (pc + 3) als ast σ Q) : WP M pc als (vI y :: vI x :: ast) σ Q := by
  intro G A p l e R s mid args below meth c cells slots Z hC hX hE H locs ls st hW hl hs
  obtain ⟨b, st1, rfl, rfl, hs1⟩ := rs_I hs
  obtain ⟨a, st2, rfl, rfl, hs2⟩ := rs_I hs1
  refine lv_icmp_ne hC.1 hC.2.1 hd ht (fun h => ?_) (fun h => ?_)
  · simp only [i32_lt, i32_le, i32_eq, ge_iff_le, gt_iff_lt, ne_eq] at h
    exact kt (by omega) G A p l e R s mid args below meth c cells slots Z hC hX hE H locs ls _ hW hl hs2
  · simp only [i32_lt, i32_le, i32_eq, ge_iff_le, gt_iff_lt, ne_eq] at h
    exact kf (by omega) G A p l e R s mid args below meth c cells slots Z hC hX hE H locs ls _ hW hl hs2
theorem wp_if_ne {x : Int} {off : Int} {tgt : Nat} (hd : decode M.2.1 pc = .ok (.ifCond .ne off, 3)) (ht : (pc : Int) + off = (tgt : Int)) (kt : x ≠ 0 → WP M tgt als ast σ Q) (kf : x = 0 → WP M (pc + 3) als ast σ Q) : WP M pc als (vI x :: ast) σ Q := by
  intro G A p l e R s mid args below meth c cells slots Z hC hX hE H locs ls st hW hl hs
  obtain ⟨a, st1, rfl, rfl, hs1⟩ := rs_I hs
  refine lv_if_ne hC.1 hC.2.1 hd ht (fun h => ?_) (fun h => ?_)
  · simp only [i32_lt, i32_le, i32_eq, ge_iff_le, gt_iff_lt, ne_eq, Int32.toInt_zero] at h
    exact kt (by omega) G A p l e R s mid args below meth c cells slots Z hC hX hE H locs ls _ hW hl hs1
  · simp only [i32_lt, i32_le, i32_eq, ge_iff_le, gt_iff_lt, ne_eq, Int32.toInt_zero] at h
    exact kf (by omega) G A p l e R s mid args below meth c cells slots Z hC hX hE H locs ls _ hW hl hs1
theorem wp_icmp_lt {x y : Int} {off : Int} {tgt : Nat} (hd : decode M.2.1 pc = .ok (.if_icmp .lt off, 3)) (ht : (pc : Int) + off = (tgt : Int)) (kt : x < y → WP M tgt als ast σ Q) (kf : y ≤ x → WP M (pc + 3) als ast σ Q) : WP M pc als (vI y :: vI x :: ast) σ Q := by
  intro G A p l e R s mid args below meth c cells slots Z hC hX hE H locs ls st hW hl hs
  obtain ⟨b, st1, rfl, rfl, hs1⟩ := rs_I hs
  obtain ⟨a, st2, rfl, rfl, hs2⟩ := rs_I hs1
  refine lv_icmp_lt hC.1 hC.2.1 hd ht (fun h => ?_) (fun h => ?_)
  · simp only [i32_lt, i32_le, i32_eq, ge_iff_le, gt_iff_lt, ne_eq] at h
    exact kt (by omega) G A p l e R s mid args below meth c cells slots Z hC hX hE H locs ls _ hW hl hs2
  · simp only [i32_lt, i32_le, i32_eq, ge_iff_le, gt_iff_lt, ne_eq] at h
    exact kf (by omega) G A p l e R s mid args below meth c cells slots Z hC hX hE H locs ls _ hW hl hs2
theorem wp_if_lt {x : Int} {off : Int} {tgt : Nat} (hd : decode M.2.1 pc = .ok (.ifCond .lt off, 3)) (ht : (pc : Int) + off = (tgt : Int)) (kt : x < 0 → WP M tgt als ast σ Q) (kf : 0 ≤ x → WP M (pc + 3) als ast σ Q) : WP M pc als (vI x :: ast) σ Q := by
  intro G A p l e R s mid args below meth c cells slots Z hC hX hE H locs ls st hW hl hs
  obtain ⟨a, st1, rfl, rfl, hs1⟩ := rs_I hs
  refine lv_if_lt hC.1 hC.2.1 hd ht (fun h => ?_) (fun h => ?_)
  · simp only [i32_lt, i32_le, i32_eq, ge_iff_le, gt_iff_lt, ne_eq, Int32.toInt_zero] at h
    exact kt (by omega) G A p l e R s mid args below meth c cells slots Z hC hX hE H locs ls _ hW hl hs1
  · simp only [i32_lt, i32_le, i32_eq, ge_iff_le, gt_iff_lt, ne_eq, Int32.toInt_zero] at h
    exact kf (by omega) G A p l e R s mid args below meth c cells slots Z hC hX hE H locs ls _ hW hl hs1
theorem wp_icmp_ge {x y : Int} {off : Int} {tgt : Nat} (hd : decode M.2.1 pc = .ok (.if_icmp .ge off, 3)) (ht : (pc : Int) + off = (tgt : Int)) (kt : y ≤ x → WP M tgt als ast σ Q) (kf : x < y → WP M (pc + 3) als ast σ Q) : WP M pc als (vI y :: vI x :: ast) σ Q := by
  intro G A p l e R s mid args below meth c cells slots Z hC hX hE H locs ls st hW hl hs
  obtain ⟨b, st1, rfl, rfl, hs1⟩ := rs_I hs
  obtain ⟨a, st2, rfl, rfl, hs2⟩ := rs_I hs1
  refine lv_icmp_ge hC.1 hC.2.1 hd ht (fun h => ?_) (fun h => ?_)
  · simp only [i32_lt, i32_le, i32_eq, ge_iff_le, gt_iff_lt, ne_eq] at h
    exact kt (by omega) G A p l e R s mid args below meth c cells slots Z hC hX hE H locs ls _ hW hl hs2
  · simp only [i32_lt, i32_le, i32_eq, ge_iff_le, gt_iff_lt, ne_eq] at h
    exact kf (by omega) G A p l e R s mid args below meth c cells slots Z hC hX hE H locs ls _ hW hl hs2
theorem wp_if_ge {x : Int} {off : Int} {tgt : Nat} (hd : decode M.2.1 pc = .ok (.ifCond .ge off, 3)) (ht : (pc : Int) + off = (tgt : Int)) (kt : 0 ≤ x → WP M tgt als ast σ Q) (kf : x < 0 → WP M (pc + 3) als ast σ Q) : WP M pc als (vI x :: ast) σ Q := by
  intro G A p l e R s mid args below meth c cells slots Z hC hX hE H locs ls st hW hl hs
  obtain ⟨a, st1, rfl, rfl, hs1⟩ := rs_I hs
  refine lv_if_ge hC.1 hC.2.1 hd ht (fun h => ?_) (fun h => ?_)
  · simp only [i32_lt, i32_le, i32_eq, ge_iff_le, gt_iff_lt, ne_eq, Int32.toInt_zero] at h
    exact kt (by omega) G A p l e R s mid args below meth c cells slots Z hC hX hE H locs ls _ hW hl hs1
  · simp only [i32_lt, i32_le, i32_eq, ge_iff_le, gt_iff_lt, ne_eq, Int32.toInt_zero] at h
    exact kf (by omega) G A p l e R s mid args below meth c cells slots Z hC hX hE H locs ls _ hW hl hs1
theorem wp_icmp_gt {x y : Int} {off : Int} {tgt : Nat} (hd : decode M.2.1 pc = .ok (.if_icmp .gt off, 3)) (ht : (pc : Int) + off = (tgt : Int)) (kt : y < x → WP M tgt als ast σ Q) (kf : x ≤ y → WP M (pc + 3) als ast σ Q) : WP M pc als (vI y :: vI x :: ast) σ Q := by
  intro G A p l e R s mid args below meth c cells slots Z hC hX hE H locs ls st hW hl hs
  obtain ⟨b, st1, rfl, rfl, hs1⟩ := rs_I hs
  obtain ⟨a, st2, rfl, rfl, hs2⟩ := rs_I hs1
  refine lv_icmp_gt hC.1 hC.2.1 hd ht (fun h => ?_) (fun h => ?_)
  · simp only [i32_lt, i32_le, i32_eq, ge_iff_le, gt_iff_lt, ne_eq] at h
    exact kt (by omega) G A p l e R s mid args below meth c cells slots Z hC hX hE H locs ls _ hW hl hs2
  · simp only [i32_lt, i32_le, i32_eq, ge_iff_le, gt_iff_lt, ne_eq] at h
    exact kf (by omega) G A p l e R s mid args below meth c cells slots Z hC hX hE H locs ls _ hW hl hs2
theorem wp_if_gt {x : Int} {off : Int} {tgt : Nat} (hd : decode M.2.1 pc = .ok (.ifCond .gt off, 3)) (ht : (pc : Int) + off = (tgt : Int)) (kt : 0 < x → WP M tgt als ast σ Q) (kf : x ≤ 0 → WP M (pc + 3) als ast σ Q) : WP M pc als (vI x :: ast) σ Q := by
  intro G A p l e R s mid args below meth c cells slots Z hC hX hE H locs ls st hW hl hs
  obtain ⟨a, st1, rfl, rfl, hs1⟩ := rs_I hs
  refine lv_if_gt hC.1 hC.2.1 hd ht (fun h => ?_) (fun h => ?_)
  · simp only [i32_lt, i32_le, i32_eq, ge_iff_le, gt_iff_lt, ne_eq, Int32.toInt_zero] at h
    exact kt (by omega) G A p l e R s mid args below meth c cells slots Z hC hX hE H locs ls _ hW hl hs1
  · simp only [i32_lt, i32_le, i32_eq, ge_iff_le, gt_iff_lt, ne_eq, Int32.toInt_zero] at h
    exact kf (by omega) G A p l e R s mid args below meth c cells slots Z hC hX hE H locs ls _ hW hl hs1
theorem wp_icmp_le {x y : Int} {off : Int} {tgt : Nat} (hd : decode M.2.1 pc = .ok (.if_icmp .le off, 3)) (ht : (pc : Int) + off = (tgt : Int)) (kt : x ≤ y → WP M tgt als ast σ Q) (kf : y < x → WP M (pc + 3) als ast σ Q) : WP M pc als (vI y :: vI x :: ast) σ Q := by
  intro G A p l e R s mid args below meth c cells slots Z hC hX hE H locs ls st hW hl hs
  obtain ⟨b, st1, rfl, rfl, hs1⟩ := rs_I hs
  obtain ⟨a, st2, rfl, rfl, hs2⟩ := rs_I hs1
  refine lv_icmp_le hC.1 hC.2.1 hd ht (fun h => ?_) (fun h => ?_)
  · simp only [i32_lt, i32_le, i32_eq, ge_iff_le, gt_iff_lt, ne_eq] at h
    exact kt (by omega) G A p l e R s mid args below meth c cells slots Z hC hX hE H locs ls _ hW hl hs2
  · simp only [i32_lt, i32_le, i32_eq, ge_iff_le, gt_iff_lt, ne_eq] at h
    exact kf (by omega) G A p l e R s mid args below meth c cells slots Z hC hX hE H locs ls _ hW hl hs2
theorem wp_if_le {x : Int} {off : Int} {tgt : Nat} (hd : decode M.2.1 pc = .ok (.ifCond .le off, 3)) (ht : (pc : Int) + off = (tgt : Int)) (kt : x ≤ 0 → WP M tgt als ast σ Q) (kf : 0 < x → WP M (pc + 3) als ast σ Q) : WP M pc als (vI x :: ast) σ Q := by
  intro G A p l e R s mid args below meth c cells slots Z hC hX hE H locs ls st hW hl hs
  obtain ⟨a, st1, rfl, rfl, hs1⟩ := rs_I hs
  refine lv_if_le hC.1 hC.2.1 hd ht (fun h => ?_) (fun h => ?_)
  · simp only [i32_lt, i32_le, i32_eq, ge_iff_le, gt_iff_lt, ne_eq, Int32.toInt_zero] at h
    exact kt (by omega) G A p l e R s mid args below meth c cells slots Z hC hX hE H locs ls _ hW hl hs1
  · simp only [i32_lt, i32_le, i32_eq, ge_iff_le, gt_iff_lt, ne_eq, Int32.toInt_zero] at h
    exact kf (by omega) G A p l e R s mid args below meth c cells slots Z hC hX hE H locs ls _ hW hl hs1
theorem wp_goto {off : Int} {tgt : Nat} (hd : decode M.2.1 pc = .ok (.goto off, 3)) (ht : (pc : Int) + off = (tgt : Int)) (k : WP M tgt als ast σ Q) : WP M pc als ast σ Q := by
  intro G A p l e R s mid args below meth c cells slots Z hC hX hE H locs ls st hW hl hs
  exact lv_goto hC.1 hC.2.1 hd ht (k G A p l e R s mid args below meth c cells slots Z hC hX hE H locs ls _ hW hl hs)
theorem wp_tsIn {dflt lo hi off : Int} {offs : Array Int} {len tgt : Nat} {x : Int} (hd : decode M.2.1 pc = .ok (.tableswitch dflt lo hi offs, len)) (h1 : lo ≤ x) (h2 : x ≤ hi) (ho : offs[(x - lo).toNat]? = some off) (ht : (pc : Int) + off = (tgt : Int)) (k : WP M tgt als ast σ Q) : WP M pc als (vI x :: ast) σ Q := by
  intro G A p l e R s mid args below meth c cells slots Z hC hX hE H locs ls st hW hl hs
  obtain ⟨a, st1, rfl, rfl, hs1⟩ := rs_I hs
  exact lv_tableIn hC.1 hC.2.1 hd (by omega) (by omega) ho ht (k G A p l e R s mid args below meth c cells slots Z hC hX hE H locs ls _ hW hl hs1)
theorem wp_tsOut {dflt lo hi : Int} {offs : Array Int} {len tgt : Nat} {x : Int} (hd : decode M.2.1 pc = .ok (.tableswitch dflt lo hi offs, len)) (h : x < lo ∨ hi < x) (ht : (pc : Int) + dflt = (tgt : Int)) (k : WP M tgt als ast σ Q) : WP M pc als (vI x :: ast) σ Q := by
  intro G A p l e R s mid args below meth c cells slots Z hC hX hE H locs ls st hW hl hs
  obtain ⟨a, st1, rfl, rfl, hs1⟩ := rs_I hs
  exact lv_tableOut hC.1 hC.2.1 hd h ht (k G A p l e R s mid args below meth c cells slots Z hC hX hE H locs ls _ hW hl hs1)
theorem wp_iret {x : Int} (hd : decode M.2.1 pc = .ok (.ireturn, 1)) (hr : M.2.2.2.1 = some .int) (hq : Q (.inl (some (vI x))) σ) : WP M pc als [vI x] σ Q := by
  intro G A p l e R s mid args below meth c cells slots Z hC hX hE H locs ls st hW hl hs
  obtain ⟨a, st1, rfl, rfl, hs1⟩ := rs_I hs
  cases rs_nil hs1
  exact hE.1 H locs σ pc ls a hW hd hq (Or.inl hr)
theorem wp_zret {x : Int} (hd : decode M.2.1 pc = .ok (.ireturn, 1)) (hr : M.2.2.2.1 = some .boolean) (hq : Q (.inl (some (vI x))) σ) (hx : x = 0 ∨ x = 1) : WP M pc als [vI x] σ Q := by
  intro G A p l e R s mid args below meth c cells slots Z hC hX hE H locs ls st hW hl hs
  obtain ⟨a, st1, rfl, rfl, hs1⟩ := rs_I hs
  cases rs_nil hs1
  exact hE.1 H locs σ pc ls a hW hd hq (Or.inr ⟨hr, hx.imp (fun h => Int32.toInt_inj.mp h) (fun h => Int32.toInt_inj.mp h)⟩)
theorem wp_ret (hd : decode M.2.1 pc = .ok (.return_, 1)) (hr : M.2.2.2.1 = none) (hq : Q (.inl none) σ) : WP M pc als [] σ Q := by
  intro G A p l e R s mid args below meth c cells slots Z hC hX hE H locs ls st hW hl hs
  cases rs_nil hs
  exact hE.2.1 H locs σ pc ls hW hd hq hr
theorem wp_aret {c0 i0 : Nat} (hd : decode M.2.1 pc = .ok (.areturn, 1)) (hr : ∃ n, M.2.2.2.1 = some (.object n)) (hq : Q (.inl (some (vR c0 i0))) σ) (h0 : c0 < 1000 := by decide) : WP M pc als [vR c0 i0] σ Q := by
  intro G A p l e R s mid args below meth c cells slots Z hC hX hE H locs ls st hW hl hs
  obtain ⟨st1, rfl, hm, hs1⟩ := rs_R hs
  cases rs_nil hs1
  exact hE.2.2.1 H locs σ pc ls (c0, i0) hW (hm.resolve_right (by omega)) hd hq hr
end Rules
