/-! bits of longs, and of shifted ones -/
def bl (x : Int64) (i : Nat) : Bool := x.toBitVec.getLsbD i
theorem zb_ext {x y : Int64} (h : ∀ i, i < 64 → bl x i = bl y i) : x = y := Int64.toBitVec_inj.mp (BitVec.eq_of_getLsbD_eq (fun i hi => h i hi))
theorem zb_or (x y : Int64) (i : Nat) : bl (x ||| y) i = (bl x i || bl y i) := by unfold bl; rw [Int64.toBitVec_or, BitVec.getLsbD_or]
theorem zb_and (x y : Int64) (i : Nat) : bl (x &&& y) i = (bl x i && bl y i) := by unfold bl; rw [Int64.toBitVec_and, BitVec.getLsbD_and]
theorem zb_0 (i : Nat) : bl 0 i = false := BitVec.getLsbD_zero
theorem zb_big {x : Int64} {i : Nat} (h : 64 ≤ i) : bl x i = false := BitVec.getLsbD_of_ge _ _ h
theorem zb_sl : ∀ n, n < 64 → (((nI n).toInt64 &&& 63).toBitVec.smod 64).toNat = n := by decide +kernel
theorem zb_one1 : ∀ k, k < 64 → ((1 : Int64) <<< ((nI k).toInt64 &&& 63)).toBitVec = BitVec.twoPow 64 k := by decide +kernel
theorem zb_one {k : Nat} (hk : k < 64) (i : Nat) : bl ((1 : Int64) <<< ((nI k).toInt64 &&& 63)) i = decide (i = k) := by
  unfold bl
  rw [zb_one1 k hk, BitVec.getLsbD_twoPow]
  by_cases h : i = k
  · subst h; simp [hk]
  · simp [h, Ne.symm h]
theorem zb_shr {x : Int64} {k : Nat} (hk : k < 64) : bl (x >>> ((nI k).toInt64 &&& 63)) 0 = bl x k := by
  unfold bl
  rw [Int64.toBitVec_shiftRight]
  show (x.toBitVec.sshiftRight (((nI k).toInt64 &&& 63).toBitVec.smod 64).toNat).getLsbD 0 = _
  rw [zb_sl k hk, BitVec.getLsbD_sshiftRight]
  simp [hk]
theorem zb_a1 (y : Int64) : y &&& 1 = if bl y 0 then 1 else 0 := by
  apply zb_ext
  intro i hi
  rw [zb_and]
  have h1 : ∀ i, i < 64 → bl 1 i = decide (i = 0) := by decide +kernel
  rw [h1 i hi]
  by_cases h : i = 0
  · subst h
    cases hb : bl y 0 <;> simp [zb_0, h1]
  · cases hb : bl y 0 <;> simp [zb_0, h1 i hi, h]
theorem zb_t0 {x : Int64} {k : Nat} (hk : k < 64) : ((x >>> ((nI k).toInt64 &&& 63)) &&& 1) = 0 ↔ bl x k = false := by
  rw [zb_a1, zb_shr hk]
  cases bl x k <;> decide
theorem zb_t1 {x : Int64} {k : Nat} (hk : k < 64) : ((x >>> ((nI k).toInt64 &&& 63)) &&& 1) = 1 ↔ bl x k = true := by
  rw [zb_a1, zb_shr hk]
  cases bl x k <;> decide
/-- a branch on bit k, tested against 0: f where it is wanting, g where it is there -/
theorem zb_b0 {x : Int64} {A B : Prop} {y : Int32} (k : Nat) (f : bl x k = false → A) (g : bl x k = true → B) (hy : y = nI k := by rfl) (hk : k < 64 := by omega) : (((x >>> (y.toInt64 &&& 63)) &&& 1) = 0 → A) ∧ (¬ ((x >>> (y.toInt64 &&& 63)) &&& 1) = 0 → B) := by
  subst hy
  rw [zb_t0 hk]
  exact ⟨f, fun h => g (by cases h2 : bl x k <;> simp_all)⟩
/-- a branch on bit k, tested against 1: g where it is there, f where it is wanting -/
theorem zb_b1 {x : Int64} {A B : Prop} {y : Int32} (k : Nat) (g : bl x k = true → A) (f : bl x k = false → B) (hy : y = nI k := by rfl) (hk : k < 64 := by omega) : (((x >>> (y.toInt64 &&& 63)) &&& 1) = 1 → A) ∧ (¬ ((x >>> (y.toInt64 &&& 63)) &&& 1) = 1 → B) := by
  subst hy
  rw [zb_t1 hk]
  exact ⟨g, fun h => f (by cases h2 : bl x k <;> simp_all)⟩
theorem zc_one1 : ∀ k, k < 32 → ((1 : Int32) <<< (nI k &&& 31)).toBitVec = BitVec.twoPow 32 k := by decide +kernel
theorem zc_one {k : Nat} (hk : k < 32) (i : Nat) : bt ((1 : Int32) <<< (nI k &&& 31)) i = decide (i = k) := by
  unfold bt
  rw [zc_one1 k hk, BitVec.getLsbD_twoPow]
  by_cases h : i = k
  · subst h; simp [hk]
  · simp [h, Ne.symm h]
theorem zc_a1 (y : Int32) : y &&& 1 = if bt y 0 then 1 else 0 := by
  apply b_ext
  intro i hi
  rw [b_and]
  have h1 : ∀ i, i < 32 → bt 1 i = decide (i = 0) := by decide +kernel
  rw [h1 i hi]
  by_cases h : i = 0
  · subst h
    cases hb : bt y 0 <;> simp [b_0, h1]
  · cases hb : bt y 0 <;> simp [b_0, h1 i hi, h]
theorem zc_shr {x : Int32} {k : Nat} (hk : k < 32) : bt (x >>> (nI k &&& 31)) 0 = bt x k := by
  rw [b_sshr k hk x (by omega)]
  simp [hk]
theorem zc_t0 {x : Int32} {k : Nat} (hk : k < 32) : ((x >>> (nI k &&& 31)) &&& 1) = 0 ↔ bt x k = false := by
  rw [zc_a1, zc_shr hk]
  cases bt x k <;> decide
theorem zc_b0 {x : Int32} {A B : Prop} {y : Int32} (k : Nat) (f : bt x k = false → A) (g : bt x k = true → B) (hy : y = nI k := by rfl) (hk : k < 32 := by omega) : (((x >>> (y &&& 31)) &&& 1) = 0 → A) ∧ (¬ ((x >>> (y &&& 31)) &&& 1) = 0 → B) := by
  subst hy
  rw [zc_t0 hk]
  exact ⟨f, fun h => g (by cases h2 : bt x k <;> simp_all)⟩
theorem zc_long (y : Int32) {i : Nat} (hi : i < 32) : bl y.toInt64 i = bt y i := by
  unfold bl bt
  rw [Int32.toBitVec_toInt64, BitVec.getLsbD_signExtend]
  simp [hi, show i < 64 by omega]
theorem zc_longH (y : Int32) {i : Nat} (hi : 32 ≤ i) (h : bt y 31 = false) : bl y.toInt64 i = false := by
  unfold bl
  unfold bt at h
  rw [Int32.toBitVec_toInt64, BitVec.getLsbD_signExtend, BitVec.msb_eq_getLsbD_last]
  simp only [show ¬ i < 32 by omega, if_false, h, Bool.and_false]
theorem zn_cl (n : Nat) (h : n < 2 ^ 31) : (nI n).toNatClampNeg = n := nI_clamp h
/-- the sum of two numbers below, as an index -/
theorem zn_in {x : Int32} {n N : Nat} (hx : x = nI n) (h : n < N) (hN : N < 2 ^ 31) : vp_in x N := by subst hx; exact vp_in_nI h hN
theorem zn_ne1 {n : Nat} (h : n < 2 ^ 31) : ¬ nI n = -1 := by
  intro e
  have := congrArg Int32.toInt e
  rw [nI_toInt h, show (-1 : Int32).toInt = -1 from by decide] at this
  omega
theorem zn_inj {a b : Nat} (ha : a < 2 ^ 31) (hb : b < 2 ^ 31) (h : nI a = nI b) : a = b := (nI_eq ha hb).mp h
theorem zn_m1 : ((-1 : Int32) < 0) := by decide
theorem zn_m1' : ¬ ((0 : Int32) ≤ -1) := by decide
/-- what a small number is told by its three comparisons -/
theorem zn_bel (x : Int32) {n : Nat} (hn : n < 2 ^ 31) : (x < 0 ∨ nI n ≤ x) ∨ ∃ j, j < n ∧ x = nI j := by
  rcases pk_ix x hn with h | h | h
  · exact Or.inl (Or.inl h)
  · exact Or.inl (Or.inr h)
  · exact Or.inr h
